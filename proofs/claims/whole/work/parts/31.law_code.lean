/-! ===== printed by wip/whole/tr.py out of the listing ===== -/
theorem wd_v_L_17 : vOk RL 17 RX7 yX7_ford prog_9_method_12_code 8 (some .int) 4 := ⟨(wsC_at 724 (by decide +kernel) rfl), (wsC_at 725 (by decide +kernel) rfl), (wsC_at 726 (by decide +kernel) rfl), (wsC_at 58 (by decide +kernel) rfl), (wsC_at 727 (by decide +kernel) rfl), by decide +kernel⟩
theorem wd_v_L_13 : vOk RL 13 RX6 yX6_ford prog_1_method_2_code 8 (some .int) 4 := ⟨(wsC_at 282 (by decide +kernel) rfl), (wsC_at 283 (by decide +kernel) rfl), (wsC_at 284 (by decide +kernel) rfl), (wsC_at 51 (by decide +kernel) rfl), (wsC_at 285 (by decide +kernel) rfl), by decide +kernel⟩
theorem wd_v_L_22 : vOk RL 22 RX7 yX7_ofFish prog_9_method_16_code 3 (some .int) 2 := ⟨(wsC_at 761 (by decide +kernel) rfl), (wsC_at 762 (by decide +kernel) rfl), (wsC_at 763 (by decide +kernel) rfl), (wsC_at 58 (by decide +kernel) rfl), (wsC_at 764 (by decide +kernel) rfl), by decide +kernel⟩
theorem wd_v_L_18 : vOk RL 18 RX6 yX6_ofFish prog_1_method_3_code 4 (some .int) 2 := ⟨(wsC_at 340 (by decide +kernel) rfl), (wsC_at 341 (by decide +kernel) rfl), (wsC_at 342 (by decide +kernel) rfl), (wsC_at 51 (by decide +kernel) rfl), (wsC_at 343 (by decide +kernel) rfl), by decide +kernel⟩
theorem wd_v_L_27 : vOk RL 27 RX7 yX7_dear prog_9_method_17_code 3 (some .int) 1 := ⟨(wsC_at 773 (by decide +kernel) rfl), (wsC_at 774 (by decide +kernel) rfl), (wsC_at 775 (by decide +kernel) rfl), (wsC_at 58 (by decide +kernel) rfl), (wsC_at 776 (by decide +kernel) rfl), by decide +kernel⟩
theorem wd_v_L_23 : vOk RL 23 RX6 yX6_dear prog_1_method_4_code 3 (some .int) 1 := ⟨(wsC_at 351 (by decide +kernel) rfl), (wsC_at 352 (by decide +kernel) rfl), (wsC_at 353 (by decide +kernel) rfl), (wsC_at 51 (by decide +kernel) rfl), (wsC_at 354 (by decide +kernel) rfl), by decide +kernel⟩
theorem wd_v_L_31 : vOk RL 31 RX7 yX7_scales prog_9_method_18_code 4 (some .int) 2 := ⟨(wsC_at 777 (by decide +kernel) rfl), (wsC_at 778 (by decide +kernel) rfl), (wsC_at 779 (by decide +kernel) rfl), (wsC_at 58 (by decide +kernel) rfl), (wsC_at 780 (by decide +kernel) rfl), by decide +kernel⟩
theorem wd_v_L_28 : vOk RL 28 RX6 yX6_scales prog_1_method_5_code 4 (some .int) 2 := ⟨(wsC_at 355 (by decide +kernel) rfl), (wsC_at 356 (by decide +kernel) rfl), (wsC_at 357 (by decide +kernel) rfl), (wsC_at 51 (by decide +kernel) rfl), (wsC_at 358 (by decide +kernel) rfl), by decide +kernel⟩
theorem wd_v_L_35 : vOk RL 35 RX7 yX7_hear prog_9_method_19_code 3 (some .int) 1 := ⟨(wsC_at 781 (by decide +kernel) rfl), (wsC_at 782 (by decide +kernel) rfl), (wsC_at 783 (by decide +kernel) rfl), (wsC_at 58 (by decide +kernel) rfl), (wsC_at 784 (by decide +kernel) rfl), by decide +kernel⟩
theorem wd_v_L_32 : vOk RL 32 RX6 yX6_hear prog_1_method_6_code 3 (some .int) 1 := ⟨(wsC_at 359 (by decide +kernel) rfl), (wsC_at 360 (by decide +kernel) rfl), (wsC_at 361 (by decide +kernel) rfl), (wsC_at 51 (by decide +kernel) rfl), (wsC_at 362 (by decide +kernel) rfl), by decide +kernel⟩
theorem wd_v_L_40 : vOk RL 40 RX7 yX7_passes prog_9_method_32_code 8 (some .int) 5 := ⟨(wsC_at 785 (by decide +kernel) rfl), (wsC_at 786 (by decide +kernel) rfl), (wsC_at 787 (by decide +kernel) rfl), (wsC_at 58 (by decide +kernel) rfl), (wsC_at 788 (by decide +kernel) rfl), by decide +kernel⟩
theorem wd_v_L_36 : vOk RL 36 RX6 yX6_passes prog_1_method_7_code 9 (some .int) 5 := ⟨(wsC_at 363 (by decide +kernel) rfl), (wsC_at 364 (by decide +kernel) rfl), (wsC_at 365 (by decide +kernel) rfl), (wsC_at 51 (by decide +kernel) rfl), (wsC_at 366 (by decide +kernel) rfl), by decide +kernel⟩
theorem wd_v_L_45 : vOk RL 45 RX7 yX7_owes prog_9_method_34_code 8 (some .int) 6 := ⟨(wsC_at 836 (by decide +kernel) rfl), (wsC_at 837 (by decide +kernel) rfl), (wsC_at 838 (by decide +kernel) rfl), (wsC_at 58 (by decide +kernel) rfl), (wsC_at 839 (by decide +kernel) rfl), by decide +kernel⟩
theorem wd_v_L_41 : vOk RL 41 RX6 yX6_owes prog_1_method_8_code 9 (some .int) 6 := ⟨(wsC_at 424 (by decide +kernel) rfl), (wsC_at 425 (by decide +kernel) rfl), (wsC_at 426 (by decide +kernel) rfl), (wsC_at 51 (by decide +kernel) rfl), (wsC_at 427 (by decide +kernel) rfl), by decide +kernel⟩
theorem wd_v_L_49 : vOk RL 49 RX7 yX7_toll prog_9_method_35_code 7 (some .int) 5 := ⟨(wsC_at 844 (by decide +kernel) rfl), (wsC_at 845 (by decide +kernel) rfl), (wsC_at 846 (by decide +kernel) rfl), (wsC_at 58 (by decide +kernel) rfl), (wsC_at 847 (by decide +kernel) rfl), by decide +kernel⟩
theorem wd_v_L_46 : vOk RL 46 RX6 yX6_toll prog_1_method_9_code 8 (some .int) 5 := ⟨(wsC_at 436 (by decide +kernel) rfl), (wsC_at 437 (by decide +kernel) rfl), (wsC_at 438 (by decide +kernel) rfl), (wsC_at 51 (by decide +kernel) rfl), (wsC_at 439 (by decide +kernel) rfl), by decide +kernel⟩
theorem wd_v_L_53 : vOk RL 53 RX7 yX7_least prog_9_method_40_code 5 (some .int) 2 := ⟨(wsC_at 848 (by decide +kernel) rfl), (wsC_at 849 (by decide +kernel) rfl), (wsC_at 850 (by decide +kernel) rfl), (wsC_at 58 (by decide +kernel) rfl), (wsC_at 851 (by decide +kernel) rfl), by decide +kernel⟩
theorem wd_v_L_50 : vOk RL 50 RX6 yX6_least prog_1_method_10_code 3 (some .int) 2 := ⟨(wsC_at 441 (by decide +kernel) rfl), (wsC_at 442 (by decide +kernel) rfl), (wsC_at 443 (by decide +kernel) rfl), (wsC_at 51 (by decide +kernel) rfl), (wsC_at 444 (by decide +kernel) rfl), by decide +kernel⟩
theorem wd_v_L_57 : vOk RL 57 RX7 yX7_payments prog_9_method_44_code 6 (some .int) 4 := ⟨(wsC_at 868 (by decide +kernel) rfl), (wsC_at 869 (by decide +kernel) rfl), (wsC_at 870 (by decide +kernel) rfl), (wsC_at 58 (by decide +kernel) rfl), (wsC_at 871 (by decide +kernel) rfl), by decide +kernel⟩
theorem wd_v_L_54 : vOk RL 54 RX6 yX6_payments prog_1_method_11_code 7 (some .int) 4 := ⟨(wsC_at 476 (by decide +kernel) rfl), (wsC_at 477 (by decide +kernel) rfl), (wsC_at 478 (by decide +kernel) rfl), (wsC_at 51 (by decide +kernel) rfl), (wsC_at 479 (by decide +kernel) rfl), by decide +kernel⟩
theorem wd_v_L_61 : vOk RL 61 RX7 yX7_wants prog_9_method_45_code 10 (some .int) 5 := ⟨(wsC_at 884 (by decide +kernel) rfl), (wsC_at 885 (by decide +kernel) rfl), (wsC_at 886 (by decide +kernel) rfl), (wsC_at 58 (by decide +kernel) rfl), (wsC_at 887 (by decide +kernel) rfl), by decide +kernel⟩
theorem wd_v_L_58 : vOk RL 58 RX6 yX6_wants prog_1_method_12_code 8 (some .int) 5 := ⟨(wsC_at 491 (by decide +kernel) rfl), (wsC_at 492 (by decide +kernel) rfl), (wsC_at 493 (by decide +kernel) rfl), (wsC_at 51 (by decide +kernel) rfl), (wsC_at 494 (by decide +kernel) rfl), by decide +kernel⟩
theorem wd_v_L_65 : vOk RL 65 RX7 yX7_reading prog_9_method_46_code 3 (some .int) 2 := ⟨(wsC_at 888 (by decide +kernel) rfl), (wsC_at 889 (by decide +kernel) rfl), (wsC_at 890 (by decide +kernel) rfl), (wsC_at 58 (by decide +kernel) rfl), (wsC_at 891 (by decide +kernel) rfl), by decide +kernel⟩
theorem wd_v_L_62 : vOk RL 62 RX6 yX6_reading prog_1_method_13_code 3 (some .int) 2 := ⟨(wsC_at 495 (by decide +kernel) rfl), (wsC_at 496 (by decide +kernel) rfl), (wsC_at 497 (by decide +kernel) rfl), (wsC_at 51 (by decide +kernel) rfl), (wsC_at 498 (by decide +kernel) rfl), by decide +kernel⟩
theorem wd_v_L_69 : vOk RL 69 RX7 yX7_back prog_9_method_47_code 2 (some .int) 1 := ⟨(wsC_at 892 (by decide +kernel) rfl), (wsC_at 893 (by decide +kernel) rfl), (wsC_at 894 (by decide +kernel) rfl), (wsC_at 58 (by decide +kernel) rfl), (wsC_at 895 (by decide +kernel) rfl), by decide +kernel⟩
theorem wd_v_L_66 : vOk RL 66 RX6 yX6_back prog_1_method_14_code 2 (some .int) 1 := ⟨(wsC_at 503 (by decide +kernel) rfl), (wsC_at 504 (by decide +kernel) rfl), (wsC_at 505 (by decide +kernel) rfl), (wsC_at 51 (by decide +kernel) rfl), (wsC_at 506 (by decide +kernel) rfl), by decide +kernel⟩
theorem wd_v_L_73 : vOk RL 73 RX7 yX7_had prog_9_method_50_code 10 (some .int) 5 := ⟨(wsC_at 896 (by decide +kernel) rfl), (wsC_at 897 (by decide +kernel) rfl), (wsC_at 898 (by decide +kernel) rfl), (wsC_at 58 (by decide +kernel) rfl), (wsC_at 899 (by decide +kernel) rfl), by decide +kernel⟩
theorem wd_v_L_70 : vOk RL 70 RX6 yX6_had prog_1_method_15_code 9 (some .int) 5 := ⟨(wsC_at 507 (by decide +kernel) rfl), (wsC_at 508 (by decide +kernel) rfl), (wsC_at 509 (by decide +kernel) rfl), (wsC_at 51 (by decide +kernel) rfl), (wsC_at 510 (by decide +kernel) rfl), by decide +kernel⟩
theorem wd_v_L_77 : vOk RL 77 RX7 yX7_dears prog_9_method_51_code 9 (some .int) 4 := ⟨(wsC_at 908 (by decide +kernel) rfl), (wsC_at 909 (by decide +kernel) rfl), (wsC_at 910 (by decide +kernel) rfl), (wsC_at 58 (by decide +kernel) rfl), (wsC_at 911 (by decide +kernel) rfl), by decide +kernel⟩
theorem wd_v_L_74 : vOk RL 74 RX6 yX6_dears prog_1_method_16_code 8 (some .int) 4 := ⟨(wsC_at 522 (by decide +kernel) rfl), (wsC_at 523 (by decide +kernel) rfl), (wsC_at 524 (by decide +kernel) rfl), (wsC_at 51 (by decide +kernel) rfl), (wsC_at 525 (by decide +kernel) rfl), by decide +kernel⟩
theorem wd_v_L_81 : vOk RL 81 RX7 yX7_kinds prog_9_method_52_code 10 (some .int) 5 := ⟨(wsC_at 912 (by decide +kernel) rfl), (wsC_at 913 (by decide +kernel) rfl), (wsC_at 914 (by decide +kernel) rfl), (wsC_at 58 (by decide +kernel) rfl), (wsC_at 915 (by decide +kernel) rfl), by decide +kernel⟩
theorem wd_v_L_78 : vOk RL 78 RX6 yX6_kinds prog_1_method_17_code 9 (some .int) 5 := ⟨(wsC_at 526 (by decide +kernel) rfl), (wsC_at 527 (by decide +kernel) rfl), (wsC_at 528 (by decide +kernel) rfl), (wsC_at 51 (by decide +kernel) rfl), (wsC_at 529 (by decide +kernel) rfl), by decide +kernel⟩
theorem wd_v_L_86 : vOk RL 86 RX7 yX7_odds prog_9_method_54_code 9 (some .long) 5 := ⟨(wsC_at 916 (by decide +kernel) rfl), (wsC_at 917 (by decide +kernel) rfl), (wsC_at 918 (by decide +kernel) rfl), (wsC_at 58 (by decide +kernel) rfl), (wsC_at 919 (by decide +kernel) rfl), by decide +kernel⟩
theorem wd_v_L_82 : vOk RL 82 RX6 yX6_odds prog_1_method_18_code 9 (some .long) 5 := ⟨(wsC_at 530 (by decide +kernel) rfl), (wsC_at 531 (by decide +kernel) rfl), (wsC_at 532 (by decide +kernel) rfl), (wsC_at 51 (by decide +kernel) rfl), (wsC_at 533 (by decide +kernel) rfl), by decide +kernel⟩
theorem wd_v_L_91 : vOk RL 91 RX7 yX7_sheet prog_9_method_55_code 5 (some .int) 3 := ⟨(wsC_at 925 (by decide +kernel) rfl), (wsC_at 926 (by decide +kernel) rfl), (wsC_at 927 (by decide +kernel) rfl), (wsC_at 58 (by decide +kernel) rfl), (wsC_at 928 (by decide +kernel) rfl), by decide +kernel⟩
theorem wd_v_L_87 : vOk RL 87 RX6 yX6_sheet prog_1_method_19_code 4 (some .int) 3 := ⟨(wsC_at 535 (by decide +kernel) rfl), (wsC_at 536 (by decide +kernel) rfl), (wsC_at 537 (by decide +kernel) rfl), (wsC_at 51 (by decide +kernel) rfl), (wsC_at 538 (by decide +kernel) rfl), by decide +kernel⟩
theorem wd_v_L_95 : vOk RL 95 RX7 yX7_lose prog_9_method_56_code 3 (some .int) 1 := ⟨(wsC_at 929 (by decide +kernel) rfl), (wsC_at 930 (by decide +kernel) rfl), (wsC_at 931 (by decide +kernel) rfl), (wsC_at 58 (by decide +kernel) rfl), (wsC_at 932 (by decide +kernel) rfl), by decide +kernel⟩
theorem wd_v_L_92 : vOk RL 92 RX6 yX6_lose prog_1_method_20_code 3 (some .int) 1 := ⟨(wsC_at 546 (by decide +kernel) rfl), (wsC_at 547 (by decide +kernel) rfl), (wsC_at 548 (by decide +kernel) rfl), (wsC_at 51 (by decide +kernel) rfl), (wsC_at 549 (by decide +kernel) rfl), by decide +kernel⟩
theorem wd_v_L_99 : vOk RL 99 RX7 yX7_put prog_9_method_57_code 4 (some .int) 3 := ⟨(wsC_at 933 (by decide +kernel) rfl), (wsC_at 934 (by decide +kernel) rfl), (wsC_at 935 (by decide +kernel) rfl), (wsC_at 58 (by decide +kernel) rfl), (wsC_at 936 (by decide +kernel) rfl), by decide +kernel⟩
theorem wd_v_L_96 : vOk RL 96 RX6 yX6_put prog_1_method_21_code 4 (some .int) 3 := ⟨(wsC_at 550 (by decide +kernel) rfl), (wsC_at 551 (by decide +kernel) rfl), (wsC_at 552 (by decide +kernel) rfl), (wsC_at 51 (by decide +kernel) rfl), (wsC_at 553 (by decide +kernel) rfl), by decide +kernel⟩
theorem wd_v_L_104 : vOk RL 104 RX7 yX7_cell prog_9_method_58_code 4 (some .long) 3 := ⟨(wsC_at 937 (by decide +kernel) rfl), (wsC_at 938 (by decide +kernel) rfl), (wsC_at 939 (by decide +kernel) rfl), (wsC_at 58 (by decide +kernel) rfl), (wsC_at 940 (by decide +kernel) rfl), by decide +kernel⟩
theorem wd_v_L_100 : vOk RL 100 RX6 yX6_cell prog_1_method_22_code 4 (some .long) 3 := ⟨(wsC_at 563 (by decide +kernel) rfl), (wsC_at 564 (by decide +kernel) rfl), (wsC_at 565 (by decide +kernel) rfl), (wsC_at 51 (by decide +kernel) rfl), (wsC_at 566 (by decide +kernel) rfl), by decide +kernel⟩
theorem wd_v_L_108 : vOk RL 108 RX7 yX7_copy prog_9_method_59_code 10 (some .int) 5 := ⟨(wsC_at 945 (by decide +kernel) rfl), (wsC_at 946 (by decide +kernel) rfl), (wsC_at 947 (by decide +kernel) rfl), (wsC_at 58 (by decide +kernel) rfl), (wsC_at 948 (by decide +kernel) rfl), by decide +kernel⟩
theorem wd_v_L_105 : vOk RL 105 RX6 yX6_copy prog_1_method_23_code 8 (some .int) 5 := ⟨(wsC_at 567 (by decide +kernel) rfl), (wsC_at 568 (by decide +kernel) rfl), (wsC_at 569 (by decide +kernel) rfl), (wsC_at 51 (by decide +kernel) rfl), (wsC_at 570 (by decide +kernel) rfl), by decide +kernel⟩
theorem wd_v_L_112 : vOk RL 112 RX7 yX7_tell prog_9_method_61_code 3 (some .int) 1 := ⟨(wsC_at 949 (by decide +kernel) rfl), (wsC_at 950 (by decide +kernel) rfl), (wsC_at 951 (by decide +kernel) rfl), (wsC_at 58 (by decide +kernel) rfl), (wsC_at 952 (by decide +kernel) rfl), by decide +kernel⟩
theorem wd_v_L_109 : vOk RL 109 RX6 yX6_tell prog_1_method_24_code 3 (some .int) 1 := ⟨(wsC_at 572 (by decide +kernel) rfl), (wsC_at 573 (by decide +kernel) rfl), (wsC_at 574 (by decide +kernel) rfl), (wsC_at 51 (by decide +kernel) rfl), (wsC_at 575 (by decide +kernel) rfl), by decide +kernel⟩
theorem wd_v_L_116 : vOk RL 116 RX7 yX7_let prog_9_method_62_code 2 (some .int) 1 := ⟨(wsC_at 957 (by decide +kernel) rfl), (wsC_at 958 (by decide +kernel) rfl), (wsC_at 959 (by decide +kernel) rfl), (wsC_at 58 (by decide +kernel) rfl), (wsC_at 960 (by decide +kernel) rfl), by decide +kernel⟩
theorem wd_v_L_113 : vOk RL 113 RX6 yX6_let prog_1_method_25_code 2 (some .int) 1 := ⟨(wsC_at 592 (by decide +kernel) rfl), (wsC_at 593 (by decide +kernel) rfl), (wsC_at 594 (by decide +kernel) rfl), (wsC_at 51 (by decide +kernel) rfl), (wsC_at 595 (by decide +kernel) rfl), by decide +kernel⟩
theorem wd_v_L_120 : vOk RL 120 RX7 yX7_as prog_9_method_63_code 3 (some .int) 2 := ⟨(wsC_at 961 (by decide +kernel) rfl), (wsC_at 962 (by decide +kernel) rfl), (wsC_at 963 (by decide +kernel) rfl), (wsC_at 58 (by decide +kernel) rfl), (wsC_at 964 (by decide +kernel) rfl), by decide +kernel⟩
theorem wd_v_L_117 : vOk RL 117 RX6 yX6_as prog_1_method_26_code 3 (some .int) 2 := ⟨(wsC_at 596 (by decide +kernel) rfl), (wsC_at 597 (by decide +kernel) rfl), (wsC_at 598 (by decide +kernel) rfl), (wsC_at 51 (by decide +kernel) rfl), (wsC_at 599 (by decide +kernel) rfl), by decide +kernel⟩
theorem wd_v_L_125 : vOk RL 125 RX7 yX7_trace prog_9_method_64_code 1 (some .int) 0 := ⟨(wsC_at 965 (by decide +kernel) rfl), (wsC_at 966 (by decide +kernel) rfl), (wsC_at 967 (by decide +kernel) rfl), (wsC_at 58 (by decide +kernel) rfl), (wsC_at 968 (by decide +kernel) rfl), by decide +kernel⟩
theorem wd_v_L_121 : vOk RL 121 RX6 yX6_trace prog_1_method_27_code 1 (some .int) 0 := ⟨(wsC_at 600 (by decide +kernel) rfl), (wsC_at 601 (by decide +kernel) rfl), (wsC_at 602 (by decide +kernel) rfl), (wsC_at 51 (by decide +kernel) rfl), (wsC_at 603 (by decide +kernel) rfl), by decide +kernel⟩
theorem wd_v_L_129 : vOk RL 129 RX7 yX7_fault prog_9_method_65_code 1 (some .int) 0 := ⟨(wsC_at 969 (by decide +kernel) rfl), (wsC_at 970 (by decide +kernel) rfl), (wsC_at 971 (by decide +kernel) rfl), (wsC_at 58 (by decide +kernel) rfl), (wsC_at 972 (by decide +kernel) rfl), by decide +kernel⟩
theorem wd_v_L_126 : vOk RL 126 RX6 yX6_fault prog_1_method_28_code 1 (some .int) 0 := ⟨(wsC_at 604 (by decide +kernel) rfl), (wsC_at 605 (by decide +kernel) rfl), (wsC_at 606 (by decide +kernel) rfl), (wsC_at 51 (by decide +kernel) rfl), (wsC_at 607 (by decide +kernel) rfl), by decide +kernel⟩
theorem wd_v_L_133 : vOk RL 133 RX7 yX7_many prog_9_method_66_code 2 (some .int) 1 := ⟨(wsC_at 973 (by decide +kernel) rfl), (wsC_at 974 (by decide +kernel) rfl), (wsC_at 975 (by decide +kernel) rfl), (wsC_at 58 (by decide +kernel) rfl), (wsC_at 976 (by decide +kernel) rfl), by decide +kernel⟩
theorem wd_v_L_130 : vOk RL 130 RX6 yX6_many prog_1_method_29_code 2 (some .int) 1 := ⟨(wsC_at 608 (by decide +kernel) rfl), (wsC_at 609 (by decide +kernel) rfl), (wsC_at 610 (by decide +kernel) rfl), (wsC_at 51 (by decide +kernel) rfl), (wsC_at 611 (by decide +kernel) rfl), by decide +kernel⟩
def f_L_law_j1318 (L : Nat) (xsc : Nat → Int32) (next : Int32 × Mem → Option (Int32 × Mem)) (exit : Mem → Option (Int32 × Mem)) (x3 : Int32) (m : Mem) : Option (Int32 × Mem) :=
  next ((x3 + (7 : Int32)), m)
theorem g_L_law_j1318 {X : XT} (L : Nat) (xsc : Nat → Int32) (h : MW X L xsc) (next : Int32 × Mem → Option (Int32 × Mem)) (exit : Mem → Option (Int32 × Mem)) (x3 : Int32) (m : Mem) (hn : ∀ (y3 : Int32) (n : Mem), Go X (El X) 18 [some (.inr (.inr (60, 0))), some (.inr (.inr (0, 0))), some (.inr (.inr (30, 0))), some (.inl y3)] [] n (next (y3, n))) (hx : ∀ (n : Mem) (o0 : Option AV) (o1 : Option AV) (o2 : Option AV) (o3 : Option AV), Go X (El X) 1324 [o0, o1, o2, o3] [] n (exit (n))) : Go X (El X) 1318 [some (.inr (.inr (60, 0))), some (.inr (.inr (0, 0))), some (.inr (.inr (30, 0))), some (.inl x3)] [] m (f_L_law_j1318 L xsc next exit x3 m) := by
  unfold f_L_law_j1318
  refine go_blk h.1 (is := [.iinc 3 7]) (pc' := 1321) (ls' := [some (.inr (.inr (60, 0))), some (.inr (.inr (0, 0))), some (.inr (.inr (30, 0))), some (.inl (x3 + (7 : Int32)))]) (st' := []) (m' := m) (by decide +kernel) rfl ?_
  refine go_goto h.1 (off := -1303) 18 (by decide +kernel) (by decide) ?_
  exact hn (x3 + (7 : Int32)) m

def f_L_law_b18 (L : Nat) (xsc : Nat → Int32) (next : Int32 × Mem → Option (Int32 × Mem)) (exit : Mem → Option (Int32 × Mem)) (s : Int32 × Mem) : Option (Int32 × Mem) :=
  if ((Int32.ofNat L) - (7 : Int32)) < s.1 then
    exit (s.2)
  else
    if inB s.1 L = true then
      if ((xsc (ix s.1)) &&& (31 : Int32)) = (0 : Int32) then
        if inB (s.1 + (1 : Int32)) L = true then
          if inB (s.1 + (2 : Int32)) L = true then
            if inB (s.1 + (3 : Int32)) L = true then
              if inB (s.1 + (4 : Int32)) L = true then
                bnd (f_X6_ford (xsc (ix (s.1 + (1 : Int32)))) (xsc (ix (s.1 + (2 : Int32)))) (xsc (ix (s.1 + (3 : Int32)))) (xsc (ix (s.1 + (4 : Int32)))) s.2) (fun r181 m181 =>
                  if inB (s.1 + (1 : Int32)) L = true then
                    if inB (s.1 + (2 : Int32)) L = true then
                      if inB (s.1 + (3 : Int32)) L = true then
                        if inB (s.1 + (4 : Int32)) L = true then
                          bnd (f_X7_ford (xsc (ix (s.1 + (1 : Int32)))) (xsc (ix (s.1 + (2 : Int32)))) (xsc (ix (s.1 + (3 : Int32)))) (xsc (ix (s.1 + (4 : Int32)))) m181) (fun r205 m205 =>
                            if r181 = r205 then
                              f_L_law_j1318 L xsc next exit s.1 m205
                            else
                              some ((0 : Int32), m205))
                        else none
                      else none
                    else none
                  else none)
              else none
            else none
          else none
        else none
      else
        if ((xsc (ix s.1)) &&& (31 : Int32)) = (1 : Int32) then
          if inB (s.1 + (1 : Int32)) L = true then
            if inB (s.1 + (2 : Int32)) L = true then
              bnd (f_X6_ofFish (xsc (ix (s.1 + (1 : Int32)))) (xsc (ix (s.1 + (2 : Int32)))) s.2) (fun r224 m224 =>
                if inB (s.1 + (1 : Int32)) L = true then
                  if inB (s.1 + (2 : Int32)) L = true then
                    bnd (f_X7_ofFish (xsc (ix (s.1 + (1 : Int32)))) (xsc (ix (s.1 + (2 : Int32)))) m224) (fun r238 m238 =>
                      if r224 = r238 then
                        f_L_law_j1318 L xsc next exit s.1 m238
                      else
                        some ((0 : Int32), m238))
                  else none
                else none)
            else none
          else none
        else
          if ((xsc (ix s.1)) &&& (31 : Int32)) = (2 : Int32) then
            if inB (s.1 + (1 : Int32)) L = true then
              bnd (f_X6_dear (xsc (ix (s.1 + (1 : Int32)))) s.2) (fun r252 m252 =>
                if inB (s.1 + (1 : Int32)) L = true then
                  bnd (f_X7_dear (xsc (ix (s.1 + (1 : Int32)))) m252) (fun r261 m261 =>
                    if r252 = r261 then
                      f_L_law_j1318 L xsc next exit s.1 m261
                    else
                      some ((0 : Int32), m261))
                else none)
            else none
          else
            if ((xsc (ix s.1)) &&& (31 : Int32)) = (3 : Int32) then
              if inB (s.1 + (1 : Int32)) L = true then
                if inB (s.1 + (2 : Int32)) L = true then
                  bnd (f_X6_scales (xsc (ix (s.1 + (1 : Int32)))) (xsc (ix (s.1 + (2 : Int32)))) s.2) (fun r280 m280 =>
                    if inB (s.1 + (1 : Int32)) L = true then
                      if inB (s.1 + (2 : Int32)) L = true then
                        bnd (f_X7_scales (xsc (ix (s.1 + (1 : Int32)))) (xsc (ix (s.1 + (2 : Int32)))) m280) (fun r294 m294 =>
                          if r280 = r294 then
                            f_L_law_j1318 L xsc next exit s.1 m294
                          else
                            some ((0 : Int32), m294))
                      else none
                    else none)
                else none
              else none
            else
              if ((xsc (ix s.1)) &&& (31 : Int32)) = (4 : Int32) then
                if inB (s.1 + (1 : Int32)) L = true then
                  bnd (f_X6_hear (xsc (ix (s.1 + (1 : Int32)))) s.2) (fun r308 m308 =>
                    if inB (s.1 + (1 : Int32)) L = true then
                      bnd (f_X7_hear (xsc (ix (s.1 + (1 : Int32)))) m308) (fun r317 m317 =>
                        if r308 = r317 then
                          f_L_law_j1318 L xsc next exit s.1 m317
                        else
                          some ((0 : Int32), m317))
                    else none)
                else none
              else
                if ((xsc (ix s.1)) &&& (31 : Int32)) = (5 : Int32) then
                  if inB (s.1 + (1 : Int32)) L = true then
                    if inB (s.1 + (2 : Int32)) L = true then
                      if inB (s.1 + (3 : Int32)) L = true then
                        if inB (s.1 + (4 : Int32)) L = true then
                          if inB (s.1 + (5 : Int32)) L = true then
                            bnd (f_X6_passes (xsc (ix (s.1 + (1 : Int32)))) (xsc (ix (s.1 + (2 : Int32)))) (xsc (ix (s.1 + (3 : Int32)))) (xsc (ix (s.1 + (4 : Int32)))) (xsc (ix (s.1 + (5 : Int32)))) s.2) (fun r351 m351 =>
                              if inB (s.1 + (1 : Int32)) L = true then
                                if inB (s.1 + (2 : Int32)) L = true then
                                  if inB (s.1 + (3 : Int32)) L = true then
                                    if inB (s.1 + (4 : Int32)) L = true then
                                      if inB (s.1 + (5 : Int32)) L = true then
                                        bnd (f_X7_passes (xsc (ix (s.1 + (1 : Int32)))) (xsc (ix (s.1 + (2 : Int32)))) (xsc (ix (s.1 + (3 : Int32)))) (xsc (ix (s.1 + (4 : Int32)))) (xsc (ix (s.1 + (5 : Int32)))) m351) (fun r380 m380 =>
                                          if r351 = r380 then
                                            f_L_law_j1318 L xsc next exit s.1 m380
                                          else
                                            some ((0 : Int32), m380))
                                      else none
                                    else none
                                  else none
                                else none
                              else none)
                          else none
                        else none
                      else none
                    else none
                  else none
                else
                  if ((xsc (ix s.1)) &&& (31 : Int32)) = (6 : Int32) then
                    if inB (s.1 + (1 : Int32)) L = true then
                      if inB (s.1 + (2 : Int32)) L = true then
                        if inB (s.1 + (3 : Int32)) L = true then
                          if inB (s.1 + (4 : Int32)) L = true then
                            if inB (s.1 + (5 : Int32)) L = true then
                              if inB (s.1 + (6 : Int32)) L = true then
                                bnd (f_X6_owes (xsc (ix (s.1 + (1 : Int32)))) (xsc (ix (s.1 + (2 : Int32)))) (xsc (ix (s.1 + (3 : Int32)))) (xsc (ix (s.1 + (4 : Int32)))) (xsc (ix (s.1 + (5 : Int32)))) (xsc (ix (s.1 + (6 : Int32)))) s.2) (fun r420 m420 =>
                                  if inB (s.1 + (1 : Int32)) L = true then
                                    if inB (s.1 + (2 : Int32)) L = true then
                                      if inB (s.1 + (3 : Int32)) L = true then
                                        if inB (s.1 + (4 : Int32)) L = true then
                                          if inB (s.1 + (5 : Int32)) L = true then
                                            if inB (s.1 + (6 : Int32)) L = true then
                                              bnd (f_X7_owes (xsc (ix (s.1 + (1 : Int32)))) (xsc (ix (s.1 + (2 : Int32)))) (xsc (ix (s.1 + (3 : Int32)))) (xsc (ix (s.1 + (4 : Int32)))) (xsc (ix (s.1 + (5 : Int32)))) (xsc (ix (s.1 + (6 : Int32)))) m420) (fun r455 m455 =>
                                                if r420 = r455 then
                                                  f_L_law_j1318 L xsc next exit s.1 m455
                                                else
                                                  some ((0 : Int32), m455))
                                            else none
                                          else none
                                        else none
                                      else none
                                    else none
                                  else none)
                              else none
                            else none
                          else none
                        else none
                      else none
                    else none
                  else
                    if ((xsc (ix s.1)) &&& (31 : Int32)) = (7 : Int32) then
                      if inB (s.1 + (1 : Int32)) L = true then
                        if inB (s.1 + (2 : Int32)) L = true then
                          if inB (s.1 + (3 : Int32)) L = true then
                            if inB (s.1 + (4 : Int32)) L = true then
                              if inB (s.1 + (5 : Int32)) L = true then
                                bnd (f_X6_toll (xsc (ix (s.1 + (1 : Int32)))) (xsc (ix (s.1 + (2 : Int32)))) (xsc (ix (s.1 + (3 : Int32)))) (xsc (ix (s.1 + (4 : Int32)))) (xsc (ix (s.1 + (5 : Int32)))) s.2) (fun r489 m489 =>
                                  if inB (s.1 + (1 : Int32)) L = true then
                                    if inB (s.1 + (2 : Int32)) L = true then
                                      if inB (s.1 + (3 : Int32)) L = true then
                                        if inB (s.1 + (4 : Int32)) L = true then
                                          if inB (s.1 + (5 : Int32)) L = true then
                                            bnd (f_X7_toll (xsc (ix (s.1 + (1 : Int32)))) (xsc (ix (s.1 + (2 : Int32)))) (xsc (ix (s.1 + (3 : Int32)))) (xsc (ix (s.1 + (4 : Int32)))) (xsc (ix (s.1 + (5 : Int32)))) m489) (fun r518 m518 =>
                                              if r489 = r518 then
                                                f_L_law_j1318 L xsc next exit s.1 m518
                                              else
                                                some ((0 : Int32), m518))
                                          else none
                                        else none
                                      else none
                                    else none
                                  else none)
                              else none
                            else none
                          else none
                        else none
                      else none
                    else
                      if ((xsc (ix s.1)) &&& (31 : Int32)) = (8 : Int32) then
                        if inB (s.1 + (1 : Int32)) L = true then
                          if inB (s.1 + (2 : Int32)) L = true then
                            bnd (f_X6_least (xsc (ix (s.1 + (1 : Int32)))) (xsc (ix (s.1 + (2 : Int32)))) s.2) (fun r537 m537 =>
                              if inB (s.1 + (1 : Int32)) L = true then
                                if inB (s.1 + (2 : Int32)) L = true then
                                  bnd (f_X7_least (xsc (ix (s.1 + (1 : Int32)))) (xsc (ix (s.1 + (2 : Int32)))) m537) (fun r551 m551 =>
                                    if r537 = r551 then
                                      f_L_law_j1318 L xsc next exit s.1 m551
                                    else
                                      some ((0 : Int32), m551))
                                else none
                              else none)
                          else none
                        else none
                      else
                        if ((xsc (ix s.1)) &&& (31 : Int32)) = (9 : Int32) then
                          if inB (s.1 + (1 : Int32)) L = true then
                            if inB (s.1 + (2 : Int32)) L = true then
                              if inB (s.1 + (3 : Int32)) L = true then
                                if inB (s.1 + (4 : Int32)) L = true then
                                  bnd (f_X6_payments (xsc (ix (s.1 + (1 : Int32)))) (xsc (ix (s.1 + (2 : Int32)))) (xsc (ix (s.1 + (3 : Int32)))) (xsc (ix (s.1 + (4 : Int32)))) s.2) (fun r580 m580 =>
                                    if inB (s.1 + (1 : Int32)) L = true then
                                      if inB (s.1 + (2 : Int32)) L = true then
                                        if inB (s.1 + (3 : Int32)) L = true then
                                          if inB (s.1 + (4 : Int32)) L = true then
                                            bnd (f_X7_payments (xsc (ix (s.1 + (1 : Int32)))) (xsc (ix (s.1 + (2 : Int32)))) (xsc (ix (s.1 + (3 : Int32)))) (xsc (ix (s.1 + (4 : Int32)))) m580) (fun r604 m604 =>
                                              if r580 = r604 then
                                                f_L_law_j1318 L xsc next exit s.1 m604
                                              else
                                                some ((0 : Int32), m604))
                                          else none
                                        else none
                                      else none
                                    else none)
                                else none
                              else none
                            else none
                          else none
                        else
                          if ((xsc (ix s.1)) &&& (31 : Int32)) = (10 : Int32) then
                            if inB (s.1 + (1 : Int32)) L = true then
                              if inB (s.1 + (2 : Int32)) L = true then
                                if inB (s.1 + (3 : Int32)) L = true then
                                  if inB (s.1 + (4 : Int32)) L = true then
                                    if inB (s.1 + (5 : Int32)) L = true then
                                      bnd (f_X6_wants (xsc (ix (s.1 + (1 : Int32)))) (xsc (ix (s.1 + (2 : Int32)))) (xsc (ix (s.1 + (3 : Int32)))) (xsc (ix (s.1 + (4 : Int32)))) (xsc (ix (s.1 + (5 : Int32)))) s.2) (fun r638 m638 =>
                                        if inB (s.1 + (1 : Int32)) L = true then
                                          if inB (s.1 + (2 : Int32)) L = true then
                                            if inB (s.1 + (3 : Int32)) L = true then
                                              if inB (s.1 + (4 : Int32)) L = true then
                                                if inB (s.1 + (5 : Int32)) L = true then
                                                  bnd (f_X7_wants (xsc (ix (s.1 + (1 : Int32)))) (xsc (ix (s.1 + (2 : Int32)))) (xsc (ix (s.1 + (3 : Int32)))) (xsc (ix (s.1 + (4 : Int32)))) (xsc (ix (s.1 + (5 : Int32)))) m638) (fun r667 m667 =>
                                                    if r638 = r667 then
                                                      f_L_law_j1318 L xsc next exit s.1 m667
                                                    else
                                                      some ((0 : Int32), m667))
                                                else none
                                              else none
                                            else none
                                          else none
                                        else none)
                                    else none
                                  else none
                                else none
                              else none
                            else none
                          else
                            if ((xsc (ix s.1)) &&& (31 : Int32)) = (11 : Int32) then
                              if inB (s.1 + (1 : Int32)) L = true then
                                if inB (s.1 + (2 : Int32)) L = true then
                                  bnd (f_X6_reading (xsc (ix (s.1 + (1 : Int32)))) (xsc (ix (s.1 + (2 : Int32)))) s.2) (fun r686 m686 =>
                                    if inB (s.1 + (1 : Int32)) L = true then
                                      if inB (s.1 + (2 : Int32)) L = true then
                                        bnd (f_X7_reading (xsc (ix (s.1 + (1 : Int32)))) (xsc (ix (s.1 + (2 : Int32)))) m686) (fun r700 m700 =>
                                          if r686 = r700 then
                                            f_L_law_j1318 L xsc next exit s.1 m700
                                          else
                                            some ((0 : Int32), m700))
                                      else none
                                    else none)
                                else none
                              else none
                            else
                              if ((xsc (ix s.1)) &&& (31 : Int32)) = (12 : Int32) then
                                if inB (s.1 + (1 : Int32)) L = true then
                                  bnd (f_X6_back (xsc (ix (s.1 + (1 : Int32)))) s.2) (fun r714 m714 =>
                                    if inB (s.1 + (1 : Int32)) L = true then
                                      bnd (f_X7_back (xsc (ix (s.1 + (1 : Int32)))) m714) (fun r723 m723 =>
                                        if r714 = r723 then
                                          f_L_law_j1318 L xsc next exit s.1 m723
                                        else
                                          some ((0 : Int32), m723))
                                    else none)
                                else none
                              else
                                if ((xsc (ix s.1)) &&& (31 : Int32)) = (13 : Int32) then
                                  if inB (s.1 + (1 : Int32)) L = true then
                                    if inB (s.1 + (2 : Int32)) L = true then
                                      if inB (s.1 + (3 : Int32)) L = true then
                                        if inB (s.1 + (4 : Int32)) L = true then
                                          if inB (s.1 + (5 : Int32)) L = true then
                                            bnd (f_X6_had (xsc (ix (s.1 + (1 : Int32)))) (xsc (ix (s.1 + (2 : Int32)))) (xsc (ix (s.1 + (3 : Int32)))) (xsc (ix (s.1 + (4 : Int32)))) (xsc (ix (s.1 + (5 : Int32)))) s.2) (fun r757 m757 =>
                                              if inB (s.1 + (1 : Int32)) L = true then
                                                if inB (s.1 + (2 : Int32)) L = true then
                                                  if inB (s.1 + (3 : Int32)) L = true then
                                                    if inB (s.1 + (4 : Int32)) L = true then
                                                      if inB (s.1 + (5 : Int32)) L = true then
                                                        bnd (f_X7_had (xsc (ix (s.1 + (1 : Int32)))) (xsc (ix (s.1 + (2 : Int32)))) (xsc (ix (s.1 + (3 : Int32)))) (xsc (ix (s.1 + (4 : Int32)))) (xsc (ix (s.1 + (5 : Int32)))) m757) (fun r786 m786 =>
                                                          if r757 = r786 then
                                                            f_L_law_j1318 L xsc next exit s.1 m786
                                                          else
                                                            some ((0 : Int32), m786))
                                                      else none
                                                    else none
                                                  else none
                                                else none
                                              else none)
                                          else none
                                        else none
                                      else none
                                    else none
                                  else none
                                else
                                  if ((xsc (ix s.1)) &&& (31 : Int32)) = (14 : Int32) then
                                    if inB (s.1 + (1 : Int32)) L = true then
                                      if inB (s.1 + (2 : Int32)) L = true then
                                        if inB (s.1 + (3 : Int32)) L = true then
                                          if inB (s.1 + (4 : Int32)) L = true then
                                            bnd (f_X6_dears (xsc (ix (s.1 + (1 : Int32)))) (xsc (ix (s.1 + (2 : Int32)))) (xsc (ix (s.1 + (3 : Int32)))) (xsc (ix (s.1 + (4 : Int32)))) s.2) (fun r815 m815 =>
                                              if inB (s.1 + (1 : Int32)) L = true then
                                                if inB (s.1 + (2 : Int32)) L = true then
                                                  if inB (s.1 + (3 : Int32)) L = true then
                                                    if inB (s.1 + (4 : Int32)) L = true then
                                                      bnd (f_X7_dears (xsc (ix (s.1 + (1 : Int32)))) (xsc (ix (s.1 + (2 : Int32)))) (xsc (ix (s.1 + (3 : Int32)))) (xsc (ix (s.1 + (4 : Int32)))) m815) (fun r839 m839 =>
                                                        if r815 = r839 then
                                                          f_L_law_j1318 L xsc next exit s.1 m839
                                                        else
                                                          some ((0 : Int32), m839))
                                                    else none
                                                  else none
                                                else none
                                              else none)
                                          else none
                                        else none
                                      else none
                                    else none
                                  else
                                    if ((xsc (ix s.1)) &&& (31 : Int32)) = (15 : Int32) then
                                      if inB (s.1 + (1 : Int32)) L = true then
                                        if inB (s.1 + (2 : Int32)) L = true then
                                          if inB (s.1 + (3 : Int32)) L = true then
                                            if inB (s.1 + (4 : Int32)) L = true then
                                              if inB (s.1 + (5 : Int32)) L = true then
                                                bnd (f_X6_kinds (xsc (ix (s.1 + (1 : Int32)))) (xsc (ix (s.1 + (2 : Int32)))) (xsc (ix (s.1 + (3 : Int32)))) (xsc (ix (s.1 + (4 : Int32)))) (xsc (ix (s.1 + (5 : Int32)))) s.2) (fun r873 m873 =>
                                                  if inB (s.1 + (1 : Int32)) L = true then
                                                    if inB (s.1 + (2 : Int32)) L = true then
                                                      if inB (s.1 + (3 : Int32)) L = true then
                                                        if inB (s.1 + (4 : Int32)) L = true then
                                                          if inB (s.1 + (5 : Int32)) L = true then
                                                            bnd (f_X7_kinds (xsc (ix (s.1 + (1 : Int32)))) (xsc (ix (s.1 + (2 : Int32)))) (xsc (ix (s.1 + (3 : Int32)))) (xsc (ix (s.1 + (4 : Int32)))) (xsc (ix (s.1 + (5 : Int32)))) m873) (fun r902 m902 =>
                                                              if r873 = r902 then
                                                                f_L_law_j1318 L xsc next exit s.1 m902
                                                              else
                                                                some ((0 : Int32), m902))
                                                          else none
                                                        else none
                                                      else none
                                                    else none
                                                  else none)
                                              else none
                                            else none
                                          else none
                                        else none
                                      else none
                                    else
                                      if ((xsc (ix s.1)) &&& (31 : Int32)) = (16 : Int32) then
                                        if inB (s.1 + (1 : Int32)) L = true then
                                          if inB (s.1 + (2 : Int32)) L = true then
                                            if inB (s.1 + (3 : Int32)) L = true then
                                              if inB (s.1 + (4 : Int32)) L = true then
                                                if inB (s.1 + (5 : Int32)) L = true then
                                                  bnd (f_X6_odds (xsc (ix (s.1 + (1 : Int32)))) (xsc (ix (s.1 + (2 : Int32)))) (xsc (ix (s.1 + (3 : Int32)))) (xsc (ix (s.1 + (4 : Int32)))) (xsc (ix (s.1 + (5 : Int32)))) s.2) (fun r936 m936 =>
                                                    if inB (s.1 + (1 : Int32)) L = true then
                                                      if inB (s.1 + (2 : Int32)) L = true then
                                                        if inB (s.1 + (3 : Int32)) L = true then
                                                          if inB (s.1 + (4 : Int32)) L = true then
                                                            if inB (s.1 + (5 : Int32)) L = true then
                                                              bnd (f_X7_odds (xsc (ix (s.1 + (1 : Int32)))) (xsc (ix (s.1 + (2 : Int32)))) (xsc (ix (s.1 + (3 : Int32)))) (xsc (ix (s.1 + (4 : Int32)))) (xsc (ix (s.1 + (5 : Int32)))) m936) (fun r965 m965 =>
                                                                if (lg_cmp r936 r965) = 0 then
                                                                  f_L_law_j1318 L xsc next exit s.1 m965
                                                                else
                                                                  some ((0 : Int32), m965))
                                                            else none
                                                          else none
                                                        else none
                                                      else none
                                                    else none)
                                                else none
                                              else none
                                            else none
                                          else none
                                        else none
                                      else
                                        if ((xsc (ix s.1)) &&& (31 : Int32)) = (17 : Int32) then
                                          if inB (s.1 + (1 : Int32)) L = true then
                                            if inB (s.1 + (2 : Int32)) L = true then
                                              if inB (s.1 + (3 : Int32)) L = true then
                                                bnd (f_X6_sheet (xsc (ix (s.1 + (1 : Int32)))) (xsc (ix (s.1 + (2 : Int32)))) (xsc (ix (s.1 + (3 : Int32)))) s.2) (fun r990 m990 =>
                                                  if inB (s.1 + (1 : Int32)) L = true then
                                                    if inB (s.1 + (2 : Int32)) L = true then
                                                      if inB (s.1 + (3 : Int32)) L = true then
                                                        bnd (f_X7_sheet (xsc (ix (s.1 + (1 : Int32)))) (xsc (ix (s.1 + (2 : Int32)))) (xsc (ix (s.1 + (3 : Int32)))) m990) (fun r1009 m1009 =>
                                                          if r990 = r1009 then
                                                            f_L_law_j1318 L xsc next exit s.1 m1009
                                                          else
                                                            some ((0 : Int32), m1009))
                                                      else none
                                                    else none
                                                  else none)
                                              else none
                                            else none
                                          else none
                                        else
                                          if ((xsc (ix s.1)) &&& (31 : Int32)) = (18 : Int32) then
                                            if inB (s.1 + (1 : Int32)) L = true then
                                              bnd (f_X6_lose (xsc (ix (s.1 + (1 : Int32)))) s.2) (fun r1023 m1023 =>
                                                if inB (s.1 + (1 : Int32)) L = true then
                                                  bnd (f_X7_lose (xsc (ix (s.1 + (1 : Int32)))) m1023) (fun r1032 m1032 =>
                                                    if r1023 = r1032 then
                                                      f_L_law_j1318 L xsc next exit s.1 m1032
                                                    else
                                                      some ((0 : Int32), m1032))
                                                else none)
                                            else none
                                          else
                                            if ((xsc (ix s.1)) &&& (31 : Int32)) = (19 : Int32) then
                                              if inB (s.1 + (1 : Int32)) L = true then
                                                if inB (s.1 + (2 : Int32)) L = true then
                                                  if inB (s.1 + (3 : Int32)) L = true then
                                                    bnd (f_X6_put (xsc (ix (s.1 + (1 : Int32)))) (xsc (ix (s.1 + (2 : Int32)))) (xsc (ix (s.1 + (3 : Int32)))) s.2) (fun r1056 m1056 =>
                                                      if inB (s.1 + (1 : Int32)) L = true then
                                                        if inB (s.1 + (2 : Int32)) L = true then
                                                          if inB (s.1 + (3 : Int32)) L = true then
                                                            bnd (f_X7_put (xsc (ix (s.1 + (1 : Int32)))) (xsc (ix (s.1 + (2 : Int32)))) (xsc (ix (s.1 + (3 : Int32)))) m1056) (fun r1075 m1075 =>
                                                              if r1056 = r1075 then
                                                                f_L_law_j1318 L xsc next exit s.1 m1075
                                                              else
                                                                some ((0 : Int32), m1075))
                                                          else none
                                                        else none
                                                      else none)
                                                  else none
                                                else none
                                              else none
                                            else
                                              if ((xsc (ix s.1)) &&& (31 : Int32)) = (20 : Int32) then
                                                if inB (s.1 + (1 : Int32)) L = true then
                                                  if inB (s.1 + (2 : Int32)) L = true then
                                                    if inB (s.1 + (3 : Int32)) L = true then
                                                      bnd (f_X6_cell (xsc (ix (s.1 + (1 : Int32)))) (xsc (ix (s.1 + (2 : Int32)))) (xsc (ix (s.1 + (3 : Int32)))) s.2) (fun r1099 m1099 =>
                                                        if inB (s.1 + (1 : Int32)) L = true then
                                                          if inB (s.1 + (2 : Int32)) L = true then
                                                            if inB (s.1 + (3 : Int32)) L = true then
                                                              bnd (f_X7_cell (xsc (ix (s.1 + (1 : Int32)))) (xsc (ix (s.1 + (2 : Int32)))) (xsc (ix (s.1 + (3 : Int32)))) m1099) (fun r1118 m1118 =>
                                                                if (lg_cmp r1099 r1118) = 0 then
                                                                  f_L_law_j1318 L xsc next exit s.1 m1118
                                                                else
                                                                  some ((0 : Int32), m1118))
                                                            else none
                                                          else none
                                                        else none)
                                                    else none
                                                  else none
                                                else none
                                              else
                                                if ((xsc (ix s.1)) &&& (31 : Int32)) = (21 : Int32) then
                                                  if inB (s.1 + (1 : Int32)) L = true then
                                                    if inB (s.1 + (2 : Int32)) L = true then
                                                      if inB (s.1 + (3 : Int32)) L = true then
                                                        if inB (s.1 + (4 : Int32)) L = true then
                                                          if inB (s.1 + (5 : Int32)) L = true then
                                                            bnd (f_X6_copy (xsc (ix (s.1 + (1 : Int32)))) (xsc (ix (s.1 + (2 : Int32)))) (xsc (ix (s.1 + (3 : Int32)))) (xsc (ix (s.1 + (4 : Int32)))) (xsc (ix (s.1 + (5 : Int32)))) s.2) (fun r1153 m1153 =>
                                                              if inB (s.1 + (1 : Int32)) L = true then
                                                                if inB (s.1 + (2 : Int32)) L = true then
                                                                  if inB (s.1 + (3 : Int32)) L = true then
                                                                    if inB (s.1 + (4 : Int32)) L = true then
                                                                      if inB (s.1 + (5 : Int32)) L = true then
                                                                        bnd (f_X7_copy (xsc (ix (s.1 + (1 : Int32)))) (xsc (ix (s.1 + (2 : Int32)))) (xsc (ix (s.1 + (3 : Int32)))) (xsc (ix (s.1 + (4 : Int32)))) (xsc (ix (s.1 + (5 : Int32)))) m1153) (fun r1182 m1182 =>
                                                                          if r1153 = r1182 then
                                                                            f_L_law_j1318 L xsc next exit s.1 m1182
                                                                          else
                                                                            some ((0 : Int32), m1182))
                                                                      else none
                                                                    else none
                                                                  else none
                                                                else none
                                                              else none)
                                                          else none
                                                        else none
                                                      else none
                                                    else none
                                                  else none
                                                else
                                                  if ((xsc (ix s.1)) &&& (31 : Int32)) = (22 : Int32) then
                                                    if inB (s.1 + (1 : Int32)) L = true then
                                                      bnd (f_X6_tell (xsc (ix (s.1 + (1 : Int32)))) s.2) (fun r1196 m1196 =>
                                                        if inB (s.1 + (1 : Int32)) L = true then
                                                          bnd (f_X7_tell (xsc (ix (s.1 + (1 : Int32)))) m1196) (fun r1205 m1205 =>
                                                            if r1196 = r1205 then
                                                              f_L_law_j1318 L xsc next exit s.1 m1205
                                                            else
                                                              some ((0 : Int32), m1205))
                                                        else none)
                                                    else none
                                                  else
                                                    if ((xsc (ix s.1)) &&& (31 : Int32)) = (23 : Int32) then
                                                      if inB (s.1 + (1 : Int32)) L = true then
                                                        bnd (f_X6_let (xsc (ix (s.1 + (1 : Int32)))) s.2) (fun r1219 m1219 =>
                                                          if inB (s.1 + (1 : Int32)) L = true then
                                                            bnd (f_X7_let (xsc (ix (s.1 + (1 : Int32)))) m1219) (fun r1228 m1228 =>
                                                              if r1219 = r1228 then
                                                                f_L_law_j1318 L xsc next exit s.1 m1228
                                                              else
                                                                some ((0 : Int32), m1228))
                                                          else none)
                                                      else none
                                                    else
                                                      if ((xsc (ix s.1)) &&& (31 : Int32)) = (24 : Int32) then
                                                        if inB (s.1 + (1 : Int32)) L = true then
                                                          if inB (s.1 + (2 : Int32)) L = true then
                                                            bnd (f_X6_as (xsc (ix (s.1 + (1 : Int32)))) (xsc (ix (s.1 + (2 : Int32)))) s.2) (fun r1247 m1247 =>
                                                              if inB (s.1 + (1 : Int32)) L = true then
                                                                if inB (s.1 + (2 : Int32)) L = true then
                                                                  bnd (f_X7_as (xsc (ix (s.1 + (1 : Int32)))) (xsc (ix (s.1 + (2 : Int32)))) m1247) (fun r1261 m1261 =>
                                                                    if r1247 = r1261 then
                                                                      f_L_law_j1318 L xsc next exit s.1 m1261
                                                                    else
                                                                      some ((0 : Int32), m1261))
                                                                else none
                                                              else none)
                                                          else none
                                                        else none
                                                      else
                                                        if ((xsc (ix s.1)) &&& (31 : Int32)) = (25 : Int32) then
                                                          bnd (f_X6_trace s.2) (fun r1270 m1270 =>
                                                            bnd (f_X7_trace m1270) (fun r1274 m1274 =>
                                                              if r1270 = r1274 then
                                                                f_L_law_j1318 L xsc next exit s.1 m1274
                                                              else
                                                                some ((0 : Int32), m1274)))
                                                        else
                                                          if ((xsc (ix s.1)) &&& (31 : Int32)) = (26 : Int32) then
                                                            bnd (f_X6_fault s.2) (fun r1283 m1283 =>
                                                              bnd (f_X7_fault m1283) (fun r1287 m1287 =>
                                                                if r1283 = r1287 then
                                                                  f_L_law_j1318 L xsc next exit s.1 m1287
                                                                else
                                                                  some ((0 : Int32), m1287)))
                                                          else
                                                            if ((xsc (ix s.1)) &&& (31 : Int32)) = (27 : Int32) then
                                                              if inB (s.1 + (1 : Int32)) L = true then
                                                                bnd (f_X6_many (xsc (ix (s.1 + (1 : Int32)))) s.2) (fun r1301 m1301 =>
                                                                  if inB (s.1 + (1 : Int32)) L = true then
                                                                    bnd (f_X7_many (xsc (ix (s.1 + (1 : Int32)))) m1301) (fun r1310 m1310 =>
                                                                      if r1301 = r1310 then
                                                                        f_L_law_j1318 L xsc next exit s.1 m1310
                                                                      else
                                                                        some ((0 : Int32), m1310))
                                                                  else none)
                                                              else none
                                                            else
                                                              f_L_law_j1318 L xsc next exit s.1 s.2
    else none
theorem g_L_law_b18 {X : XT} (L : Nat) (xsc : Nat → Int32) (h : MW X L xsc) (next : Int32 × Mem → Option (Int32 × Mem)) (exit : Mem → Option (Int32 × Mem)) (hn : ∀ (y3 : Int32) (n : Mem), Go X (El X) 18 [some (.inr (.inr (60, 0))), some (.inr (.inr (0, 0))), some (.inr (.inr (30, 0))), some (.inl y3)] [] n (next (y3, n))) (hx : ∀ (n : Mem) (o0 : Option AV) (o1 : Option AV) (o2 : Option AV) (o3 : Option AV), Go X (El X) 1324 [o0, o1, o2, o3] [] n (exit (n))) (s : Int32 × Mem) : Go X (El X) 18 [some (.inr (.inr (60, 0))), some (.inr (.inr (0, 0))), some (.inr (.inr (30, 0))), some (.inl s.1)] [] s.2 (f_L_law_b18 L xsc next exit s) := by
  unfold f_L_law_b18
  refine go_blk h.1 (is := [.iload_n 3, .aload_n 0]) (pc' := 20) (ls' := [some (.inr (.inr (60, 0))), some (.inr (.inr (0, 0))), some (.inr (.inr (30, 0))), some (.inl s.1)]) (st' := [.inr (.inr (60, 0)), .inl s.1]) (m' := s.2) (by decide +kernel) rfl ?_
  refine go_slen h (by decide +kernel) ?_
  show Go X (El X) 21 [some (.inr (.inr (60, 0))), some (.inr (.inr (0, 0))), some (.inr (.inr (30, 0))), some (.inl s.1)] [.inl (Int32.ofNat L), .inl s.1] s.2 _
  refine go_blk h.1 (is := [.bipush 7, .isub]) (pc' := 24) (ls' := [some (.inr (.inr (60, 0))), some (.inr (.inr (0, 0))), some (.inr (.inr (30, 0))), some (.inl s.1)]) (st' := [.inl ((Int32.ofNat L) - (7 : Int32)), .inl s.1]) (m' := s.2) (by decide +kernel) rfl ?_
  refine go_icmpgt h.1 (off := 1300) 1324 (by decide +kernel) (by decide) (fun c24 => ?_) (fun c24 => ?_)
  · exact hx s.2 (some (.inr (.inr (60, 0)))) (some (.inr (.inr (0, 0)))) (some (.inr (.inr (30, 0)))) (some (.inl s.1))
  · refine go_blk h.1 (is := [.aload_n 0, .iload_n 3]) (pc' := 29) (ls' := [some (.inr (.inr (60, 0))), some (.inr (.inr (0, 0))), some (.inr (.inr (30, 0))), some (.inl s.1)]) (st' := [.inl s.1, .inr (.inr (60, 0))]) (m' := s.2) (by decide +kernel) rfl ?_
    refine go_sld h (by decide +kernel) (fun b29 => ?_)
    show Go X (El X) 30 [some (.inr (.inr (60, 0))), some (.inr (.inr (0, 0))), some (.inr (.inr (30, 0))), some (.inl s.1)] [.inl (xsc (ix s.1))] s.2 _
    refine go_blk h.1 (is := [.bipush 31, .iand]) (pc' := 33) (ls' := [some (.inr (.inr (60, 0))), some (.inr (.inr (0, 0))), some (.inr (.inr (30, 0))), some (.inl s.1)]) (st' := [.inl ((xsc (ix s.1)) &&& (31 : Int32))]) (m' := s.2) (by decide +kernel) rfl ?_
    refine go_ite (fun w33_0 => ?_) (fun w33_0 => ?_)
    · refine go_tsIn h.1 (dflt := 1285) (lo := 0) (hi := 27) (offs := #[127, 180, 213, 236, 269, 292, 355, 430, 493, 526, 579, 642, 675, 698, 761, 814, 877, 941, 984, 1007, 1050, 1094, 1157, 1180, 1203, 1236, 1249, 1262]) (len := 127) (off := 127) (0 : Int32) 160 w33_0 (by decide +kernel) (by decide) rfl (by decide) ?_
      refine go_blk h.1 (is := [.aload_n 1, .aload_n 0, .iload_n 3, .iconst 1, .iadd]) (pc' := 165) (ls' := [some (.inr (.inr (60, 0))), some (.inr (.inr (0, 0))), some (.inr (.inr (30, 0))), some (.inl s.1)]) (st' := [.inl (s.1 + (1 : Int32)), .inr (.inr (60, 0)), .inr (.inr (0, 0))]) (m' := s.2) (by decide +kernel) rfl ?_
      refine go_sld h (by decide +kernel) (fun b165 => ?_)
      show Go X (El X) 166 [some (.inr (.inr (60, 0))), some (.inr (.inr (0, 0))), some (.inr (.inr (30, 0))), some (.inl s.1)] [.inl (xsc (ix (s.1 + (1 : Int32)))), .inr (.inr (0, 0))] s.2 _
      refine go_blk h.1 (is := [.aload_n 0, .iload_n 3, .iconst 2, .iadd]) (pc' := 170) (ls' := [some (.inr (.inr (60, 0))), some (.inr (.inr (0, 0))), some (.inr (.inr (30, 0))), some (.inl s.1)]) (st' := [.inl (s.1 + (2 : Int32)), .inr (.inr (60, 0)), .inl (xsc (ix (s.1 + (1 : Int32)))), .inr (.inr (0, 0))]) (m' := s.2) (by decide +kernel) rfl ?_
      refine go_sld h (by decide +kernel) (fun b170 => ?_)
      show Go X (El X) 171 [some (.inr (.inr (60, 0))), some (.inr (.inr (0, 0))), some (.inr (.inr (30, 0))), some (.inl s.1)] [.inl (xsc (ix (s.1 + (2 : Int32)))), .inl (xsc (ix (s.1 + (1 : Int32)))), .inr (.inr (0, 0))] s.2 _
      refine go_blk h.1 (is := [.aload_n 0, .iload_n 3, .iconst 3, .iadd]) (pc' := 175) (ls' := [some (.inr (.inr (60, 0))), some (.inr (.inr (0, 0))), some (.inr (.inr (30, 0))), some (.inl s.1)]) (st' := [.inl (s.1 + (3 : Int32)), .inr (.inr (60, 0)), .inl (xsc (ix (s.1 + (2 : Int32)))), .inl (xsc (ix (s.1 + (1 : Int32)))), .inr (.inr (0, 0))]) (m' := s.2) (by decide +kernel) rfl ?_
      refine go_sld h (by decide +kernel) (fun b175 => ?_)
      show Go X (El X) 176 [some (.inr (.inr (60, 0))), some (.inr (.inr (0, 0))), some (.inr (.inr (30, 0))), some (.inl s.1)] [.inl (xsc (ix (s.1 + (3 : Int32)))), .inl (xsc (ix (s.1 + (2 : Int32)))), .inl (xsc (ix (s.1 + (1 : Int32)))), .inr (.inr (0, 0))] s.2 _
      refine go_blk h.1 (is := [.aload_n 0, .iload_n 3, .iconst 4, .iadd]) (pc' := 180) (ls' := [some (.inr (.inr (60, 0))), some (.inr (.inr (0, 0))), some (.inr (.inr (30, 0))), some (.inl s.1)]) (st' := [.inl (s.1 + (4 : Int32)), .inr (.inr (60, 0)), .inl (xsc (ix (s.1 + (3 : Int32)))), .inl (xsc (ix (s.1 + (2 : Int32)))), .inl (xsc (ix (s.1 + (1 : Int32)))), .inr (.inr (0, 0))]) (m' := s.2) (by decide +kernel) rfl ?_
      refine go_sld h (by decide +kernel) (fun b180 => ?_)
      show Go X (El X) 181 [some (.inr (.inr (60, 0))), some (.inr (.inr (0, 0))), some (.inr (.inr (30, 0))), some (.inl s.1)] [.inl (xsc (ix (s.1 + (4 : Int32)))), .inl (xsc (ix (s.1 + (3 : Int32)))), .inl (xsc (ix (s.1 + (2 : Int32)))), .inl (xsc (ix (s.1 + (1 : Int32)))), .inr (.inr (0, 0))] s.2 _
      refine go_callV h.1 (index := 13) (n := 4) (t := 0) (i := 0) (ci := 6) (nf := 7) (cz := (RX6, TX6, 7)) (as := [.inl (xsc (ix (s.1 + (1 : Int32)))), .inl (xsc (ix (s.1 + (2 : Int32)))), .inl (xsc (ix (s.1 + (3 : Int32)))), .inl (xsc (ix (s.1 + (4 : Int32))))]) (rest := []) (ctr_X6_ford (xl X) (xA X) (xC X) (xI X) (xk X) (xsc (ix (s.1 + (1 : Int32)))) (xsc (ix (s.1 + (2 : Int32)))) (xsc (ix (s.1 + (3 : Int32)))) (xsc (ix (s.1 + (4 : Int32)))) s.2) (by decide +kernel) rfl rfl wd_v_L_13 rfl (h.room (by first | decide | omega) (by decide)) h.cl (Nat.le_of_ble_eq_true rfl) puI_ok rfl (fun r181 m181 _ => ?_)
      show Go X (El X) 184 [some (.inr (.inr (60, 0))), some (.inr (.inr (0, 0))), some (.inr (.inr (30, 0))), some (.inl s.1)] [.inl r181] m181 _
      refine go_blk h.1 (is := [.aload_n 2, .aload_n 0, .iload_n 3, .iconst 1, .iadd]) (pc' := 189) (ls' := [some (.inr (.inr (60, 0))), some (.inr (.inr (0, 0))), some (.inr (.inr (30, 0))), some (.inl s.1)]) (st' := [.inl (s.1 + (1 : Int32)), .inr (.inr (60, 0)), .inr (.inr (30, 0)), .inl r181]) (m' := m181) (by decide +kernel) rfl ?_
      refine go_sld h (by decide +kernel) (fun b189 => ?_)
      show Go X (El X) 190 [some (.inr (.inr (60, 0))), some (.inr (.inr (0, 0))), some (.inr (.inr (30, 0))), some (.inl s.1)] [.inl (xsc (ix (s.1 + (1 : Int32)))), .inr (.inr (30, 0)), .inl r181] m181 _
      refine go_blk h.1 (is := [.aload_n 0, .iload_n 3, .iconst 2, .iadd]) (pc' := 194) (ls' := [some (.inr (.inr (60, 0))), some (.inr (.inr (0, 0))), some (.inr (.inr (30, 0))), some (.inl s.1)]) (st' := [.inl (s.1 + (2 : Int32)), .inr (.inr (60, 0)), .inl (xsc (ix (s.1 + (1 : Int32)))), .inr (.inr (30, 0)), .inl r181]) (m' := m181) (by decide +kernel) rfl ?_
      refine go_sld h (by decide +kernel) (fun b194 => ?_)
      show Go X (El X) 195 [some (.inr (.inr (60, 0))), some (.inr (.inr (0, 0))), some (.inr (.inr (30, 0))), some (.inl s.1)] [.inl (xsc (ix (s.1 + (2 : Int32)))), .inl (xsc (ix (s.1 + (1 : Int32)))), .inr (.inr (30, 0)), .inl r181] m181 _
      refine go_blk h.1 (is := [.aload_n 0, .iload_n 3, .iconst 3, .iadd]) (pc' := 199) (ls' := [some (.inr (.inr (60, 0))), some (.inr (.inr (0, 0))), some (.inr (.inr (30, 0))), some (.inl s.1)]) (st' := [.inl (s.1 + (3 : Int32)), .inr (.inr (60, 0)), .inl (xsc (ix (s.1 + (2 : Int32)))), .inl (xsc (ix (s.1 + (1 : Int32)))), .inr (.inr (30, 0)), .inl r181]) (m' := m181) (by decide +kernel) rfl ?_
      refine go_sld h (by decide +kernel) (fun b199 => ?_)
      show Go X (El X) 200 [some (.inr (.inr (60, 0))), some (.inr (.inr (0, 0))), some (.inr (.inr (30, 0))), some (.inl s.1)] [.inl (xsc (ix (s.1 + (3 : Int32)))), .inl (xsc (ix (s.1 + (2 : Int32)))), .inl (xsc (ix (s.1 + (1 : Int32)))), .inr (.inr (30, 0)), .inl r181] m181 _
      refine go_blk h.1 (is := [.aload_n 0, .iload_n 3, .iconst 4, .iadd]) (pc' := 204) (ls' := [some (.inr (.inr (60, 0))), some (.inr (.inr (0, 0))), some (.inr (.inr (30, 0))), some (.inl s.1)]) (st' := [.inl (s.1 + (4 : Int32)), .inr (.inr (60, 0)), .inl (xsc (ix (s.1 + (3 : Int32)))), .inl (xsc (ix (s.1 + (2 : Int32)))), .inl (xsc (ix (s.1 + (1 : Int32)))), .inr (.inr (30, 0)), .inl r181]) (m' := m181) (by decide +kernel) rfl ?_
      refine go_sld h (by decide +kernel) (fun b204 => ?_)
      show Go X (El X) 205 [some (.inr (.inr (60, 0))), some (.inr (.inr (0, 0))), some (.inr (.inr (30, 0))), some (.inl s.1)] [.inl (xsc (ix (s.1 + (4 : Int32)))), .inl (xsc (ix (s.1 + (3 : Int32)))), .inl (xsc (ix (s.1 + (2 : Int32)))), .inl (xsc (ix (s.1 + (1 : Int32)))), .inr (.inr (30, 0)), .inl r181] m181 _
      refine go_callV h.1 (index := 17) (n := 4) (t := 30) (i := 0) (ci := 7) (nf := 35) (cz := (RX7, TX7, 35)) (as := [.inl (xsc (ix (s.1 + (1 : Int32)))), .inl (xsc (ix (s.1 + (2 : Int32)))), .inl (xsc (ix (s.1 + (3 : Int32)))), .inl (xsc (ix (s.1 + (4 : Int32))))]) (rest := [.inl r181]) (ctr_X7_ford (xl X) (xA X) (xC X) (xI X) (xk X) (xsc (ix (s.1 + (1 : Int32)))) (xsc (ix (s.1 + (2 : Int32)))) (xsc (ix (s.1 + (3 : Int32)))) (xsc (ix (s.1 + (4 : Int32)))) m181) (by decide +kernel) rfl rfl wd_v_L_17 rfl (h.room (by first | decide | omega) (by decide)) h.cl (Nat.le_of_ble_eq_true rfl) puI_ok rfl (fun r205 m205 _ => ?_)
      show Go X (El X) 208 [some (.inr (.inr (60, 0))), some (.inr (.inr (0, 0))), some (.inr (.inr (30, 0))), some (.inl s.1)] [.inl r205, .inl r181] m205 _
      refine go_icmpeq h.1 (off := 1110) 1318 (by decide +kernel) (by decide) (fun c208 => ?_) (fun c208 => ?_)
      · exact g_L_law_j1318 L xsc h next exit s.1 m205 hn hx
      · refine go_blk h.1 (is := [.iconst 0]) (pc' := 212) (ls' := [some (.inr (.inr (60, 0))), some (.inr (.inr (0, 0))), some (.inr (.inr (30, 0))), some (.inl s.1)]) (st' := [.inl (0 : Int32)]) (m' := m205) (by decide +kernel) rfl ?_
        exact go_law0
    · refine go_ite (fun w33_1 => ?_) (fun w33_1 => ?_)
      · refine go_tsIn h.1 (dflt := 1285) (lo := 0) (hi := 27) (offs := #[127, 180, 213, 236, 269, 292, 355, 430, 493, 526, 579, 642, 675, 698, 761, 814, 877, 941, 984, 1007, 1050, 1094, 1157, 1180, 1203, 1236, 1249, 1262]) (len := 127) (off := 180) (1 : Int32) 213 w33_1 (by decide +kernel) (by decide) rfl (by decide) ?_
        refine go_blk h.1 (is := [.aload_n 1, .aload_n 0, .iload_n 3, .iconst 1, .iadd]) (pc' := 218) (ls' := [some (.inr (.inr (60, 0))), some (.inr (.inr (0, 0))), some (.inr (.inr (30, 0))), some (.inl s.1)]) (st' := [.inl (s.1 + (1 : Int32)), .inr (.inr (60, 0)), .inr (.inr (0, 0))]) (m' := s.2) (by decide +kernel) rfl ?_
        refine go_sld h (by decide +kernel) (fun b218 => ?_)
        show Go X (El X) 219 [some (.inr (.inr (60, 0))), some (.inr (.inr (0, 0))), some (.inr (.inr (30, 0))), some (.inl s.1)] [.inl (xsc (ix (s.1 + (1 : Int32)))), .inr (.inr (0, 0))] s.2 _
        refine go_blk h.1 (is := [.aload_n 0, .iload_n 3, .iconst 2, .iadd]) (pc' := 223) (ls' := [some (.inr (.inr (60, 0))), some (.inr (.inr (0, 0))), some (.inr (.inr (30, 0))), some (.inl s.1)]) (st' := [.inl (s.1 + (2 : Int32)), .inr (.inr (60, 0)), .inl (xsc (ix (s.1 + (1 : Int32)))), .inr (.inr (0, 0))]) (m' := s.2) (by decide +kernel) rfl ?_
        refine go_sld h (by decide +kernel) (fun b223 => ?_)
        show Go X (El X) 224 [some (.inr (.inr (60, 0))), some (.inr (.inr (0, 0))), some (.inr (.inr (30, 0))), some (.inl s.1)] [.inl (xsc (ix (s.1 + (2 : Int32)))), .inl (xsc (ix (s.1 + (1 : Int32)))), .inr (.inr (0, 0))] s.2 _
        refine go_callV h.1 (index := 18) (n := 2) (t := 0) (i := 0) (ci := 6) (nf := 7) (cz := (RX6, TX6, 7)) (as := [.inl (xsc (ix (s.1 + (1 : Int32)))), .inl (xsc (ix (s.1 + (2 : Int32))))]) (rest := []) (ctr_X6_ofFish (xl X) (xA X) (xC X) (xI X) (xk X) (xsc (ix (s.1 + (1 : Int32)))) (xsc (ix (s.1 + (2 : Int32)))) s.2) (by decide +kernel) rfl rfl wd_v_L_18 rfl (h.room (by first | decide | omega) (by decide)) h.cl (Nat.le_of_ble_eq_true rfl) puI_ok rfl (fun r224 m224 _ => ?_)
        show Go X (El X) 227 [some (.inr (.inr (60, 0))), some (.inr (.inr (0, 0))), some (.inr (.inr (30, 0))), some (.inl s.1)] [.inl r224] m224 _
        refine go_blk h.1 (is := [.aload_n 2, .aload_n 0, .iload_n 3, .iconst 1, .iadd]) (pc' := 232) (ls' := [some (.inr (.inr (60, 0))), some (.inr (.inr (0, 0))), some (.inr (.inr (30, 0))), some (.inl s.1)]) (st' := [.inl (s.1 + (1 : Int32)), .inr (.inr (60, 0)), .inr (.inr (30, 0)), .inl r224]) (m' := m224) (by decide +kernel) rfl ?_
        refine go_sld h (by decide +kernel) (fun b232 => ?_)
        show Go X (El X) 233 [some (.inr (.inr (60, 0))), some (.inr (.inr (0, 0))), some (.inr (.inr (30, 0))), some (.inl s.1)] [.inl (xsc (ix (s.1 + (1 : Int32)))), .inr (.inr (30, 0)), .inl r224] m224 _
        refine go_blk h.1 (is := [.aload_n 0, .iload_n 3, .iconst 2, .iadd]) (pc' := 237) (ls' := [some (.inr (.inr (60, 0))), some (.inr (.inr (0, 0))), some (.inr (.inr (30, 0))), some (.inl s.1)]) (st' := [.inl (s.1 + (2 : Int32)), .inr (.inr (60, 0)), .inl (xsc (ix (s.1 + (1 : Int32)))), .inr (.inr (30, 0)), .inl r224]) (m' := m224) (by decide +kernel) rfl ?_
        refine go_sld h (by decide +kernel) (fun b237 => ?_)
        show Go X (El X) 238 [some (.inr (.inr (60, 0))), some (.inr (.inr (0, 0))), some (.inr (.inr (30, 0))), some (.inl s.1)] [.inl (xsc (ix (s.1 + (2 : Int32)))), .inl (xsc (ix (s.1 + (1 : Int32)))), .inr (.inr (30, 0)), .inl r224] m224 _
        refine go_callV h.1 (index := 22) (n := 2) (t := 30) (i := 0) (ci := 7) (nf := 35) (cz := (RX7, TX7, 35)) (as := [.inl (xsc (ix (s.1 + (1 : Int32)))), .inl (xsc (ix (s.1 + (2 : Int32))))]) (rest := [.inl r224]) (ctr_X7_ofFish (xl X) (xA X) (xC X) (xI X) (xk X) (xsc (ix (s.1 + (1 : Int32)))) (xsc (ix (s.1 + (2 : Int32)))) m224) (by decide +kernel) rfl rfl wd_v_L_22 rfl (h.room (by first | decide | omega) (by decide)) h.cl (Nat.le_of_ble_eq_true rfl) puI_ok rfl (fun r238 m238 _ => ?_)
        show Go X (El X) 241 [some (.inr (.inr (60, 0))), some (.inr (.inr (0, 0))), some (.inr (.inr (30, 0))), some (.inl s.1)] [.inl r238, .inl r224] m238 _
        refine go_icmpeq h.1 (off := 1077) 1318 (by decide +kernel) (by decide) (fun c241 => ?_) (fun c241 => ?_)
        · exact g_L_law_j1318 L xsc h next exit s.1 m238 hn hx
        · refine go_blk h.1 (is := [.iconst 0]) (pc' := 245) (ls' := [some (.inr (.inr (60, 0))), some (.inr (.inr (0, 0))), some (.inr (.inr (30, 0))), some (.inl s.1)]) (st' := [.inl (0 : Int32)]) (m' := m238) (by decide +kernel) rfl ?_
          exact go_law0
      · refine go_ite (fun w33_2 => ?_) (fun w33_2 => ?_)
        · refine go_tsIn h.1 (dflt := 1285) (lo := 0) (hi := 27) (offs := #[127, 180, 213, 236, 269, 292, 355, 430, 493, 526, 579, 642, 675, 698, 761, 814, 877, 941, 984, 1007, 1050, 1094, 1157, 1180, 1203, 1236, 1249, 1262]) (len := 127) (off := 213) (2 : Int32) 246 w33_2 (by decide +kernel) (by decide) rfl (by decide) ?_
          refine go_blk h.1 (is := [.aload_n 1, .aload_n 0, .iload_n 3, .iconst 1, .iadd]) (pc' := 251) (ls' := [some (.inr (.inr (60, 0))), some (.inr (.inr (0, 0))), some (.inr (.inr (30, 0))), some (.inl s.1)]) (st' := [.inl (s.1 + (1 : Int32)), .inr (.inr (60, 0)), .inr (.inr (0, 0))]) (m' := s.2) (by decide +kernel) rfl ?_
          refine go_sld h (by decide +kernel) (fun b251 => ?_)
          show Go X (El X) 252 [some (.inr (.inr (60, 0))), some (.inr (.inr (0, 0))), some (.inr (.inr (30, 0))), some (.inl s.1)] [.inl (xsc (ix (s.1 + (1 : Int32)))), .inr (.inr (0, 0))] s.2 _
          refine go_callV h.1 (index := 23) (n := 1) (t := 0) (i := 0) (ci := 6) (nf := 7) (cz := (RX6, TX6, 7)) (as := [.inl (xsc (ix (s.1 + (1 : Int32))))]) (rest := []) (ctr_X6_dear (xl X) (xA X) (xC X) (xI X) (xk X) (xsc (ix (s.1 + (1 : Int32)))) s.2) (by decide +kernel) rfl rfl wd_v_L_23 rfl (h.room (by first | decide | omega) (by decide)) h.cl (Nat.le_of_ble_eq_true rfl) puI_ok rfl (fun r252 m252 _ => ?_)
          show Go X (El X) 255 [some (.inr (.inr (60, 0))), some (.inr (.inr (0, 0))), some (.inr (.inr (30, 0))), some (.inl s.1)] [.inl r252] m252 _
          refine go_blk h.1 (is := [.aload_n 2, .aload_n 0, .iload_n 3, .iconst 1, .iadd]) (pc' := 260) (ls' := [some (.inr (.inr (60, 0))), some (.inr (.inr (0, 0))), some (.inr (.inr (30, 0))), some (.inl s.1)]) (st' := [.inl (s.1 + (1 : Int32)), .inr (.inr (60, 0)), .inr (.inr (30, 0)), .inl r252]) (m' := m252) (by decide +kernel) rfl ?_
          refine go_sld h (by decide +kernel) (fun b260 => ?_)
          show Go X (El X) 261 [some (.inr (.inr (60, 0))), some (.inr (.inr (0, 0))), some (.inr (.inr (30, 0))), some (.inl s.1)] [.inl (xsc (ix (s.1 + (1 : Int32)))), .inr (.inr (30, 0)), .inl r252] m252 _
          refine go_callV h.1 (index := 27) (n := 1) (t := 30) (i := 0) (ci := 7) (nf := 35) (cz := (RX7, TX7, 35)) (as := [.inl (xsc (ix (s.1 + (1 : Int32))))]) (rest := [.inl r252]) (ctr_X7_dear (xl X) (xA X) (xC X) (xI X) (xk X) (xsc (ix (s.1 + (1 : Int32)))) m252) (by decide +kernel) rfl rfl wd_v_L_27 rfl (h.room (by first | decide | omega) (by decide)) h.cl (Nat.le_of_ble_eq_true rfl) puI_ok rfl (fun r261 m261 _ => ?_)
          show Go X (El X) 264 [some (.inr (.inr (60, 0))), some (.inr (.inr (0, 0))), some (.inr (.inr (30, 0))), some (.inl s.1)] [.inl r261, .inl r252] m261 _
          refine go_icmpeq h.1 (off := 1054) 1318 (by decide +kernel) (by decide) (fun c264 => ?_) (fun c264 => ?_)
          · exact g_L_law_j1318 L xsc h next exit s.1 m261 hn hx
          · refine go_blk h.1 (is := [.iconst 0]) (pc' := 268) (ls' := [some (.inr (.inr (60, 0))), some (.inr (.inr (0, 0))), some (.inr (.inr (30, 0))), some (.inl s.1)]) (st' := [.inl (0 : Int32)]) (m' := m261) (by decide +kernel) rfl ?_
            exact go_law0
        · refine go_ite (fun w33_3 => ?_) (fun w33_3 => ?_)
          · refine go_tsIn h.1 (dflt := 1285) (lo := 0) (hi := 27) (offs := #[127, 180, 213, 236, 269, 292, 355, 430, 493, 526, 579, 642, 675, 698, 761, 814, 877, 941, 984, 1007, 1050, 1094, 1157, 1180, 1203, 1236, 1249, 1262]) (len := 127) (off := 236) (3 : Int32) 269 w33_3 (by decide +kernel) (by decide) rfl (by decide) ?_
            refine go_blk h.1 (is := [.aload_n 1, .aload_n 0, .iload_n 3, .iconst 1, .iadd]) (pc' := 274) (ls' := [some (.inr (.inr (60, 0))), some (.inr (.inr (0, 0))), some (.inr (.inr (30, 0))), some (.inl s.1)]) (st' := [.inl (s.1 + (1 : Int32)), .inr (.inr (60, 0)), .inr (.inr (0, 0))]) (m' := s.2) (by decide +kernel) rfl ?_
            refine go_sld h (by decide +kernel) (fun b274 => ?_)
            show Go X (El X) 275 [some (.inr (.inr (60, 0))), some (.inr (.inr (0, 0))), some (.inr (.inr (30, 0))), some (.inl s.1)] [.inl (xsc (ix (s.1 + (1 : Int32)))), .inr (.inr (0, 0))] s.2 _
            refine go_blk h.1 (is := [.aload_n 0, .iload_n 3, .iconst 2, .iadd]) (pc' := 279) (ls' := [some (.inr (.inr (60, 0))), some (.inr (.inr (0, 0))), some (.inr (.inr (30, 0))), some (.inl s.1)]) (st' := [.inl (s.1 + (2 : Int32)), .inr (.inr (60, 0)), .inl (xsc (ix (s.1 + (1 : Int32)))), .inr (.inr (0, 0))]) (m' := s.2) (by decide +kernel) rfl ?_
            refine go_sld h (by decide +kernel) (fun b279 => ?_)
            show Go X (El X) 280 [some (.inr (.inr (60, 0))), some (.inr (.inr (0, 0))), some (.inr (.inr (30, 0))), some (.inl s.1)] [.inl (xsc (ix (s.1 + (2 : Int32)))), .inl (xsc (ix (s.1 + (1 : Int32)))), .inr (.inr (0, 0))] s.2 _
            refine go_callV h.1 (index := 28) (n := 2) (t := 0) (i := 0) (ci := 6) (nf := 7) (cz := (RX6, TX6, 7)) (as := [.inl (xsc (ix (s.1 + (1 : Int32)))), .inl (xsc (ix (s.1 + (2 : Int32))))]) (rest := []) (ctr_X6_scales (xl X) (xA X) (xC X) (xI X) (xk X) (xsc (ix (s.1 + (1 : Int32)))) (xsc (ix (s.1 + (2 : Int32)))) s.2) (by decide +kernel) rfl rfl wd_v_L_28 rfl (h.room (by first | decide | omega) (by decide)) h.cl (Nat.le_of_ble_eq_true rfl) puI_ok rfl (fun r280 m280 _ => ?_)
            show Go X (El X) 283 [some (.inr (.inr (60, 0))), some (.inr (.inr (0, 0))), some (.inr (.inr (30, 0))), some (.inl s.1)] [.inl r280] m280 _
            refine go_blk h.1 (is := [.aload_n 2, .aload_n 0, .iload_n 3, .iconst 1, .iadd]) (pc' := 288) (ls' := [some (.inr (.inr (60, 0))), some (.inr (.inr (0, 0))), some (.inr (.inr (30, 0))), some (.inl s.1)]) (st' := [.inl (s.1 + (1 : Int32)), .inr (.inr (60, 0)), .inr (.inr (30, 0)), .inl r280]) (m' := m280) (by decide +kernel) rfl ?_
            refine go_sld h (by decide +kernel) (fun b288 => ?_)
            show Go X (El X) 289 [some (.inr (.inr (60, 0))), some (.inr (.inr (0, 0))), some (.inr (.inr (30, 0))), some (.inl s.1)] [.inl (xsc (ix (s.1 + (1 : Int32)))), .inr (.inr (30, 0)), .inl r280] m280 _
            refine go_blk h.1 (is := [.aload_n 0, .iload_n 3, .iconst 2, .iadd]) (pc' := 293) (ls' := [some (.inr (.inr (60, 0))), some (.inr (.inr (0, 0))), some (.inr (.inr (30, 0))), some (.inl s.1)]) (st' := [.inl (s.1 + (2 : Int32)), .inr (.inr (60, 0)), .inl (xsc (ix (s.1 + (1 : Int32)))), .inr (.inr (30, 0)), .inl r280]) (m' := m280) (by decide +kernel) rfl ?_
            refine go_sld h (by decide +kernel) (fun b293 => ?_)
            show Go X (El X) 294 [some (.inr (.inr (60, 0))), some (.inr (.inr (0, 0))), some (.inr (.inr (30, 0))), some (.inl s.1)] [.inl (xsc (ix (s.1 + (2 : Int32)))), .inl (xsc (ix (s.1 + (1 : Int32)))), .inr (.inr (30, 0)), .inl r280] m280 _
            refine go_callV h.1 (index := 31) (n := 2) (t := 30) (i := 0) (ci := 7) (nf := 35) (cz := (RX7, TX7, 35)) (as := [.inl (xsc (ix (s.1 + (1 : Int32)))), .inl (xsc (ix (s.1 + (2 : Int32))))]) (rest := [.inl r280]) (ctr_X7_scales (xl X) (xA X) (xC X) (xI X) (xk X) (xsc (ix (s.1 + (1 : Int32)))) (xsc (ix (s.1 + (2 : Int32)))) m280) (by decide +kernel) rfl rfl wd_v_L_31 rfl (h.room (by first | decide | omega) (by decide)) h.cl (Nat.le_of_ble_eq_true rfl) puI_ok rfl (fun r294 m294 _ => ?_)
            show Go X (El X) 297 [some (.inr (.inr (60, 0))), some (.inr (.inr (0, 0))), some (.inr (.inr (30, 0))), some (.inl s.1)] [.inl r294, .inl r280] m294 _
            refine go_icmpeq h.1 (off := 1021) 1318 (by decide +kernel) (by decide) (fun c297 => ?_) (fun c297 => ?_)
            · exact g_L_law_j1318 L xsc h next exit s.1 m294 hn hx
            · refine go_blk h.1 (is := [.iconst 0]) (pc' := 301) (ls' := [some (.inr (.inr (60, 0))), some (.inr (.inr (0, 0))), some (.inr (.inr (30, 0))), some (.inl s.1)]) (st' := [.inl (0 : Int32)]) (m' := m294) (by decide +kernel) rfl ?_
              exact go_law0
          · refine go_ite (fun w33_4 => ?_) (fun w33_4 => ?_)
            · refine go_tsIn h.1 (dflt := 1285) (lo := 0) (hi := 27) (offs := #[127, 180, 213, 236, 269, 292, 355, 430, 493, 526, 579, 642, 675, 698, 761, 814, 877, 941, 984, 1007, 1050, 1094, 1157, 1180, 1203, 1236, 1249, 1262]) (len := 127) (off := 269) (4 : Int32) 302 w33_4 (by decide +kernel) (by decide) rfl (by decide) ?_
              refine go_blk h.1 (is := [.aload_n 1, .aload_n 0, .iload_n 3, .iconst 1, .iadd]) (pc' := 307) (ls' := [some (.inr (.inr (60, 0))), some (.inr (.inr (0, 0))), some (.inr (.inr (30, 0))), some (.inl s.1)]) (st' := [.inl (s.1 + (1 : Int32)), .inr (.inr (60, 0)), .inr (.inr (0, 0))]) (m' := s.2) (by decide +kernel) rfl ?_
              refine go_sld h (by decide +kernel) (fun b307 => ?_)
              show Go X (El X) 308 [some (.inr (.inr (60, 0))), some (.inr (.inr (0, 0))), some (.inr (.inr (30, 0))), some (.inl s.1)] [.inl (xsc (ix (s.1 + (1 : Int32)))), .inr (.inr (0, 0))] s.2 _
              refine go_callV h.1 (index := 32) (n := 1) (t := 0) (i := 0) (ci := 6) (nf := 7) (cz := (RX6, TX6, 7)) (as := [.inl (xsc (ix (s.1 + (1 : Int32))))]) (rest := []) (ctr_X6_hear (xl X) (xA X) (xC X) (xI X) (xk X) (xsc (ix (s.1 + (1 : Int32)))) s.2) (by decide +kernel) rfl rfl wd_v_L_32 rfl (h.room (by first | decide | omega) (by decide)) h.cl (Nat.le_of_ble_eq_true rfl) puI_ok rfl (fun r308 m308 _ => ?_)
              show Go X (El X) 311 [some (.inr (.inr (60, 0))), some (.inr (.inr (0, 0))), some (.inr (.inr (30, 0))), some (.inl s.1)] [.inl r308] m308 _
              refine go_blk h.1 (is := [.aload_n 2, .aload_n 0, .iload_n 3, .iconst 1, .iadd]) (pc' := 316) (ls' := [some (.inr (.inr (60, 0))), some (.inr (.inr (0, 0))), some (.inr (.inr (30, 0))), some (.inl s.1)]) (st' := [.inl (s.1 + (1 : Int32)), .inr (.inr (60, 0)), .inr (.inr (30, 0)), .inl r308]) (m' := m308) (by decide +kernel) rfl ?_
              refine go_sld h (by decide +kernel) (fun b316 => ?_)
              show Go X (El X) 317 [some (.inr (.inr (60, 0))), some (.inr (.inr (0, 0))), some (.inr (.inr (30, 0))), some (.inl s.1)] [.inl (xsc (ix (s.1 + (1 : Int32)))), .inr (.inr (30, 0)), .inl r308] m308 _
              refine go_callV h.1 (index := 35) (n := 1) (t := 30) (i := 0) (ci := 7) (nf := 35) (cz := (RX7, TX7, 35)) (as := [.inl (xsc (ix (s.1 + (1 : Int32))))]) (rest := [.inl r308]) (ctr_X7_hear (xl X) (xA X) (xC X) (xI X) (xk X) (xsc (ix (s.1 + (1 : Int32)))) m308) (by decide +kernel) rfl rfl wd_v_L_35 rfl (h.room (by first | decide | omega) (by decide)) h.cl (Nat.le_of_ble_eq_true rfl) puI_ok rfl (fun r317 m317 _ => ?_)
              show Go X (El X) 320 [some (.inr (.inr (60, 0))), some (.inr (.inr (0, 0))), some (.inr (.inr (30, 0))), some (.inl s.1)] [.inl r317, .inl r308] m317 _
              refine go_icmpeq h.1 (off := 998) 1318 (by decide +kernel) (by decide) (fun c320 => ?_) (fun c320 => ?_)
              · exact g_L_law_j1318 L xsc h next exit s.1 m317 hn hx
              · refine go_blk h.1 (is := [.iconst 0]) (pc' := 324) (ls' := [some (.inr (.inr (60, 0))), some (.inr (.inr (0, 0))), some (.inr (.inr (30, 0))), some (.inl s.1)]) (st' := [.inl (0 : Int32)]) (m' := m317) (by decide +kernel) rfl ?_
                exact go_law0
            · refine go_ite (fun w33_5 => ?_) (fun w33_5 => ?_)
              · refine go_tsIn h.1 (dflt := 1285) (lo := 0) (hi := 27) (offs := #[127, 180, 213, 236, 269, 292, 355, 430, 493, 526, 579, 642, 675, 698, 761, 814, 877, 941, 984, 1007, 1050, 1094, 1157, 1180, 1203, 1236, 1249, 1262]) (len := 127) (off := 292) (5 : Int32) 325 w33_5 (by decide +kernel) (by decide) rfl (by decide) ?_
                refine go_blk h.1 (is := [.aload_n 1, .aload_n 0, .iload_n 3, .iconst 1, .iadd]) (pc' := 330) (ls' := [some (.inr (.inr (60, 0))), some (.inr (.inr (0, 0))), some (.inr (.inr (30, 0))), some (.inl s.1)]) (st' := [.inl (s.1 + (1 : Int32)), .inr (.inr (60, 0)), .inr (.inr (0, 0))]) (m' := s.2) (by decide +kernel) rfl ?_
                refine go_sld h (by decide +kernel) (fun b330 => ?_)
                show Go X (El X) 331 [some (.inr (.inr (60, 0))), some (.inr (.inr (0, 0))), some (.inr (.inr (30, 0))), some (.inl s.1)] [.inl (xsc (ix (s.1 + (1 : Int32)))), .inr (.inr (0, 0))] s.2 _
                refine go_blk h.1 (is := [.aload_n 0, .iload_n 3, .iconst 2, .iadd]) (pc' := 335) (ls' := [some (.inr (.inr (60, 0))), some (.inr (.inr (0, 0))), some (.inr (.inr (30, 0))), some (.inl s.1)]) (st' := [.inl (s.1 + (2 : Int32)), .inr (.inr (60, 0)), .inl (xsc (ix (s.1 + (1 : Int32)))), .inr (.inr (0, 0))]) (m' := s.2) (by decide +kernel) rfl ?_
                refine go_sld h (by decide +kernel) (fun b335 => ?_)
                show Go X (El X) 336 [some (.inr (.inr (60, 0))), some (.inr (.inr (0, 0))), some (.inr (.inr (30, 0))), some (.inl s.1)] [.inl (xsc (ix (s.1 + (2 : Int32)))), .inl (xsc (ix (s.1 + (1 : Int32)))), .inr (.inr (0, 0))] s.2 _
                refine go_blk h.1 (is := [.aload_n 0, .iload_n 3, .iconst 3, .iadd]) (pc' := 340) (ls' := [some (.inr (.inr (60, 0))), some (.inr (.inr (0, 0))), some (.inr (.inr (30, 0))), some (.inl s.1)]) (st' := [.inl (s.1 + (3 : Int32)), .inr (.inr (60, 0)), .inl (xsc (ix (s.1 + (2 : Int32)))), .inl (xsc (ix (s.1 + (1 : Int32)))), .inr (.inr (0, 0))]) (m' := s.2) (by decide +kernel) rfl ?_
                refine go_sld h (by decide +kernel) (fun b340 => ?_)
                show Go X (El X) 341 [some (.inr (.inr (60, 0))), some (.inr (.inr (0, 0))), some (.inr (.inr (30, 0))), some (.inl s.1)] [.inl (xsc (ix (s.1 + (3 : Int32)))), .inl (xsc (ix (s.1 + (2 : Int32)))), .inl (xsc (ix (s.1 + (1 : Int32)))), .inr (.inr (0, 0))] s.2 _
                refine go_blk h.1 (is := [.aload_n 0, .iload_n 3, .iconst 4, .iadd]) (pc' := 345) (ls' := [some (.inr (.inr (60, 0))), some (.inr (.inr (0, 0))), some (.inr (.inr (30, 0))), some (.inl s.1)]) (st' := [.inl (s.1 + (4 : Int32)), .inr (.inr (60, 0)), .inl (xsc (ix (s.1 + (3 : Int32)))), .inl (xsc (ix (s.1 + (2 : Int32)))), .inl (xsc (ix (s.1 + (1 : Int32)))), .inr (.inr (0, 0))]) (m' := s.2) (by decide +kernel) rfl ?_
                refine go_sld h (by decide +kernel) (fun b345 => ?_)
                show Go X (El X) 346 [some (.inr (.inr (60, 0))), some (.inr (.inr (0, 0))), some (.inr (.inr (30, 0))), some (.inl s.1)] [.inl (xsc (ix (s.1 + (4 : Int32)))), .inl (xsc (ix (s.1 + (3 : Int32)))), .inl (xsc (ix (s.1 + (2 : Int32)))), .inl (xsc (ix (s.1 + (1 : Int32)))), .inr (.inr (0, 0))] s.2 _
                refine go_blk h.1 (is := [.aload_n 0, .iload_n 3, .iconst 5, .iadd]) (pc' := 350) (ls' := [some (.inr (.inr (60, 0))), some (.inr (.inr (0, 0))), some (.inr (.inr (30, 0))), some (.inl s.1)]) (st' := [.inl (s.1 + (5 : Int32)), .inr (.inr (60, 0)), .inl (xsc (ix (s.1 + (4 : Int32)))), .inl (xsc (ix (s.1 + (3 : Int32)))), .inl (xsc (ix (s.1 + (2 : Int32)))), .inl (xsc (ix (s.1 + (1 : Int32)))), .inr (.inr (0, 0))]) (m' := s.2) (by decide +kernel) rfl ?_
                refine go_sld h (by decide +kernel) (fun b350 => ?_)
                show Go X (El X) 351 [some (.inr (.inr (60, 0))), some (.inr (.inr (0, 0))), some (.inr (.inr (30, 0))), some (.inl s.1)] [.inl (xsc (ix (s.1 + (5 : Int32)))), .inl (xsc (ix (s.1 + (4 : Int32)))), .inl (xsc (ix (s.1 + (3 : Int32)))), .inl (xsc (ix (s.1 + (2 : Int32)))), .inl (xsc (ix (s.1 + (1 : Int32)))), .inr (.inr (0, 0))] s.2 _
                refine go_callV h.1 (index := 36) (n := 5) (t := 0) (i := 0) (ci := 6) (nf := 7) (cz := (RX6, TX6, 7)) (as := [.inl (xsc (ix (s.1 + (1 : Int32)))), .inl (xsc (ix (s.1 + (2 : Int32)))), .inl (xsc (ix (s.1 + (3 : Int32)))), .inl (xsc (ix (s.1 + (4 : Int32)))), .inl (xsc (ix (s.1 + (5 : Int32))))]) (rest := []) (ctr_X6_passes (xl X) (xA X) (xC X) (xI X) (xk X) (xsc (ix (s.1 + (1 : Int32)))) (xsc (ix (s.1 + (2 : Int32)))) (xsc (ix (s.1 + (3 : Int32)))) (xsc (ix (s.1 + (4 : Int32)))) (xsc (ix (s.1 + (5 : Int32)))) s.2) (by decide +kernel) rfl rfl wd_v_L_36 rfl (h.room (by first | decide | omega) (by decide)) h.cl (Nat.le_of_ble_eq_true rfl) puI_ok rfl (fun r351 m351 _ => ?_)
                show Go X (El X) 354 [some (.inr (.inr (60, 0))), some (.inr (.inr (0, 0))), some (.inr (.inr (30, 0))), some (.inl s.1)] [.inl r351] m351 _
                refine go_blk h.1 (is := [.aload_n 2, .aload_n 0, .iload_n 3, .iconst 1, .iadd]) (pc' := 359) (ls' := [some (.inr (.inr (60, 0))), some (.inr (.inr (0, 0))), some (.inr (.inr (30, 0))), some (.inl s.1)]) (st' := [.inl (s.1 + (1 : Int32)), .inr (.inr (60, 0)), .inr (.inr (30, 0)), .inl r351]) (m' := m351) (by decide +kernel) rfl ?_
                refine go_sld h (by decide +kernel) (fun b359 => ?_)
                show Go X (El X) 360 [some (.inr (.inr (60, 0))), some (.inr (.inr (0, 0))), some (.inr (.inr (30, 0))), some (.inl s.1)] [.inl (xsc (ix (s.1 + (1 : Int32)))), .inr (.inr (30, 0)), .inl r351] m351 _
                refine go_blk h.1 (is := [.aload_n 0, .iload_n 3, .iconst 2, .iadd]) (pc' := 364) (ls' := [some (.inr (.inr (60, 0))), some (.inr (.inr (0, 0))), some (.inr (.inr (30, 0))), some (.inl s.1)]) (st' := [.inl (s.1 + (2 : Int32)), .inr (.inr (60, 0)), .inl (xsc (ix (s.1 + (1 : Int32)))), .inr (.inr (30, 0)), .inl r351]) (m' := m351) (by decide +kernel) rfl ?_
                refine go_sld h (by decide +kernel) (fun b364 => ?_)
                show Go X (El X) 365 [some (.inr (.inr (60, 0))), some (.inr (.inr (0, 0))), some (.inr (.inr (30, 0))), some (.inl s.1)] [.inl (xsc (ix (s.1 + (2 : Int32)))), .inl (xsc (ix (s.1 + (1 : Int32)))), .inr (.inr (30, 0)), .inl r351] m351 _
                refine go_blk h.1 (is := [.aload_n 0, .iload_n 3, .iconst 3, .iadd]) (pc' := 369) (ls' := [some (.inr (.inr (60, 0))), some (.inr (.inr (0, 0))), some (.inr (.inr (30, 0))), some (.inl s.1)]) (st' := [.inl (s.1 + (3 : Int32)), .inr (.inr (60, 0)), .inl (xsc (ix (s.1 + (2 : Int32)))), .inl (xsc (ix (s.1 + (1 : Int32)))), .inr (.inr (30, 0)), .inl r351]) (m' := m351) (by decide +kernel) rfl ?_
                refine go_sld h (by decide +kernel) (fun b369 => ?_)
                show Go X (El X) 370 [some (.inr (.inr (60, 0))), some (.inr (.inr (0, 0))), some (.inr (.inr (30, 0))), some (.inl s.1)] [.inl (xsc (ix (s.1 + (3 : Int32)))), .inl (xsc (ix (s.1 + (2 : Int32)))), .inl (xsc (ix (s.1 + (1 : Int32)))), .inr (.inr (30, 0)), .inl r351] m351 _
                refine go_blk h.1 (is := [.aload_n 0, .iload_n 3, .iconst 4, .iadd]) (pc' := 374) (ls' := [some (.inr (.inr (60, 0))), some (.inr (.inr (0, 0))), some (.inr (.inr (30, 0))), some (.inl s.1)]) (st' := [.inl (s.1 + (4 : Int32)), .inr (.inr (60, 0)), .inl (xsc (ix (s.1 + (3 : Int32)))), .inl (xsc (ix (s.1 + (2 : Int32)))), .inl (xsc (ix (s.1 + (1 : Int32)))), .inr (.inr (30, 0)), .inl r351]) (m' := m351) (by decide +kernel) rfl ?_
                refine go_sld h (by decide +kernel) (fun b374 => ?_)
                show Go X (El X) 375 [some (.inr (.inr (60, 0))), some (.inr (.inr (0, 0))), some (.inr (.inr (30, 0))), some (.inl s.1)] [.inl (xsc (ix (s.1 + (4 : Int32)))), .inl (xsc (ix (s.1 + (3 : Int32)))), .inl (xsc (ix (s.1 + (2 : Int32)))), .inl (xsc (ix (s.1 + (1 : Int32)))), .inr (.inr (30, 0)), .inl r351] m351 _
                refine go_blk h.1 (is := [.aload_n 0, .iload_n 3, .iconst 5, .iadd]) (pc' := 379) (ls' := [some (.inr (.inr (60, 0))), some (.inr (.inr (0, 0))), some (.inr (.inr (30, 0))), some (.inl s.1)]) (st' := [.inl (s.1 + (5 : Int32)), .inr (.inr (60, 0)), .inl (xsc (ix (s.1 + (4 : Int32)))), .inl (xsc (ix (s.1 + (3 : Int32)))), .inl (xsc (ix (s.1 + (2 : Int32)))), .inl (xsc (ix (s.1 + (1 : Int32)))), .inr (.inr (30, 0)), .inl r351]) (m' := m351) (by decide +kernel) rfl ?_
                refine go_sld h (by decide +kernel) (fun b379 => ?_)
                show Go X (El X) 380 [some (.inr (.inr (60, 0))), some (.inr (.inr (0, 0))), some (.inr (.inr (30, 0))), some (.inl s.1)] [.inl (xsc (ix (s.1 + (5 : Int32)))), .inl (xsc (ix (s.1 + (4 : Int32)))), .inl (xsc (ix (s.1 + (3 : Int32)))), .inl (xsc (ix (s.1 + (2 : Int32)))), .inl (xsc (ix (s.1 + (1 : Int32)))), .inr (.inr (30, 0)), .inl r351] m351 _
                refine go_callV h.1 (index := 40) (n := 5) (t := 30) (i := 0) (ci := 7) (nf := 35) (cz := (RX7, TX7, 35)) (as := [.inl (xsc (ix (s.1 + (1 : Int32)))), .inl (xsc (ix (s.1 + (2 : Int32)))), .inl (xsc (ix (s.1 + (3 : Int32)))), .inl (xsc (ix (s.1 + (4 : Int32)))), .inl (xsc (ix (s.1 + (5 : Int32))))]) (rest := [.inl r351]) (ctr_X7_passes (xl X) (xA X) (xC X) (xI X) (xk X) (xsc (ix (s.1 + (1 : Int32)))) (xsc (ix (s.1 + (2 : Int32)))) (xsc (ix (s.1 + (3 : Int32)))) (xsc (ix (s.1 + (4 : Int32)))) (xsc (ix (s.1 + (5 : Int32)))) m351) (by decide +kernel) rfl rfl wd_v_L_40 rfl (h.room (by first | decide | omega) (by decide)) h.cl (Nat.le_of_ble_eq_true rfl) puI_ok rfl (fun r380 m380 _ => ?_)
                show Go X (El X) 383 [some (.inr (.inr (60, 0))), some (.inr (.inr (0, 0))), some (.inr (.inr (30, 0))), some (.inl s.1)] [.inl r380, .inl r351] m380 _
                refine go_icmpeq h.1 (off := 935) 1318 (by decide +kernel) (by decide) (fun c383 => ?_) (fun c383 => ?_)
                · exact g_L_law_j1318 L xsc h next exit s.1 m380 hn hx
                · refine go_blk h.1 (is := [.iconst 0]) (pc' := 387) (ls' := [some (.inr (.inr (60, 0))), some (.inr (.inr (0, 0))), some (.inr (.inr (30, 0))), some (.inl s.1)]) (st' := [.inl (0 : Int32)]) (m' := m380) (by decide +kernel) rfl ?_
                  exact go_law0
              · refine go_ite (fun w33_6 => ?_) (fun w33_6 => ?_)
                · refine go_tsIn h.1 (dflt := 1285) (lo := 0) (hi := 27) (offs := #[127, 180, 213, 236, 269, 292, 355, 430, 493, 526, 579, 642, 675, 698, 761, 814, 877, 941, 984, 1007, 1050, 1094, 1157, 1180, 1203, 1236, 1249, 1262]) (len := 127) (off := 355) (6 : Int32) 388 w33_6 (by decide +kernel) (by decide) rfl (by decide) ?_
                  refine go_blk h.1 (is := [.aload_n 1, .aload_n 0, .iload_n 3, .iconst 1, .iadd]) (pc' := 393) (ls' := [some (.inr (.inr (60, 0))), some (.inr (.inr (0, 0))), some (.inr (.inr (30, 0))), some (.inl s.1)]) (st' := [.inl (s.1 + (1 : Int32)), .inr (.inr (60, 0)), .inr (.inr (0, 0))]) (m' := s.2) (by decide +kernel) rfl ?_
                  refine go_sld h (by decide +kernel) (fun b393 => ?_)
                  show Go X (El X) 394 [some (.inr (.inr (60, 0))), some (.inr (.inr (0, 0))), some (.inr (.inr (30, 0))), some (.inl s.1)] [.inl (xsc (ix (s.1 + (1 : Int32)))), .inr (.inr (0, 0))] s.2 _
                  refine go_blk h.1 (is := [.aload_n 0, .iload_n 3, .iconst 2, .iadd]) (pc' := 398) (ls' := [some (.inr (.inr (60, 0))), some (.inr (.inr (0, 0))), some (.inr (.inr (30, 0))), some (.inl s.1)]) (st' := [.inl (s.1 + (2 : Int32)), .inr (.inr (60, 0)), .inl (xsc (ix (s.1 + (1 : Int32)))), .inr (.inr (0, 0))]) (m' := s.2) (by decide +kernel) rfl ?_
                  refine go_sld h (by decide +kernel) (fun b398 => ?_)
                  show Go X (El X) 399 [some (.inr (.inr (60, 0))), some (.inr (.inr (0, 0))), some (.inr (.inr (30, 0))), some (.inl s.1)] [.inl (xsc (ix (s.1 + (2 : Int32)))), .inl (xsc (ix (s.1 + (1 : Int32)))), .inr (.inr (0, 0))] s.2 _
                  refine go_blk h.1 (is := [.aload_n 0, .iload_n 3, .iconst 3, .iadd]) (pc' := 403) (ls' := [some (.inr (.inr (60, 0))), some (.inr (.inr (0, 0))), some (.inr (.inr (30, 0))), some (.inl s.1)]) (st' := [.inl (s.1 + (3 : Int32)), .inr (.inr (60, 0)), .inl (xsc (ix (s.1 + (2 : Int32)))), .inl (xsc (ix (s.1 + (1 : Int32)))), .inr (.inr (0, 0))]) (m' := s.2) (by decide +kernel) rfl ?_
                  refine go_sld h (by decide +kernel) (fun b403 => ?_)
                  show Go X (El X) 404 [some (.inr (.inr (60, 0))), some (.inr (.inr (0, 0))), some (.inr (.inr (30, 0))), some (.inl s.1)] [.inl (xsc (ix (s.1 + (3 : Int32)))), .inl (xsc (ix (s.1 + (2 : Int32)))), .inl (xsc (ix (s.1 + (1 : Int32)))), .inr (.inr (0, 0))] s.2 _
                  refine go_blk h.1 (is := [.aload_n 0, .iload_n 3, .iconst 4, .iadd]) (pc' := 408) (ls' := [some (.inr (.inr (60, 0))), some (.inr (.inr (0, 0))), some (.inr (.inr (30, 0))), some (.inl s.1)]) (st' := [.inl (s.1 + (4 : Int32)), .inr (.inr (60, 0)), .inl (xsc (ix (s.1 + (3 : Int32)))), .inl (xsc (ix (s.1 + (2 : Int32)))), .inl (xsc (ix (s.1 + (1 : Int32)))), .inr (.inr (0, 0))]) (m' := s.2) (by decide +kernel) rfl ?_
                  refine go_sld h (by decide +kernel) (fun b408 => ?_)
                  show Go X (El X) 409 [some (.inr (.inr (60, 0))), some (.inr (.inr (0, 0))), some (.inr (.inr (30, 0))), some (.inl s.1)] [.inl (xsc (ix (s.1 + (4 : Int32)))), .inl (xsc (ix (s.1 + (3 : Int32)))), .inl (xsc (ix (s.1 + (2 : Int32)))), .inl (xsc (ix (s.1 + (1 : Int32)))), .inr (.inr (0, 0))] s.2 _
                  refine go_blk h.1 (is := [.aload_n 0, .iload_n 3, .iconst 5, .iadd]) (pc' := 413) (ls' := [some (.inr (.inr (60, 0))), some (.inr (.inr (0, 0))), some (.inr (.inr (30, 0))), some (.inl s.1)]) (st' := [.inl (s.1 + (5 : Int32)), .inr (.inr (60, 0)), .inl (xsc (ix (s.1 + (4 : Int32)))), .inl (xsc (ix (s.1 + (3 : Int32)))), .inl (xsc (ix (s.1 + (2 : Int32)))), .inl (xsc (ix (s.1 + (1 : Int32)))), .inr (.inr (0, 0))]) (m' := s.2) (by decide +kernel) rfl ?_
                  refine go_sld h (by decide +kernel) (fun b413 => ?_)
                  show Go X (El X) 414 [some (.inr (.inr (60, 0))), some (.inr (.inr (0, 0))), some (.inr (.inr (30, 0))), some (.inl s.1)] [.inl (xsc (ix (s.1 + (5 : Int32)))), .inl (xsc (ix (s.1 + (4 : Int32)))), .inl (xsc (ix (s.1 + (3 : Int32)))), .inl (xsc (ix (s.1 + (2 : Int32)))), .inl (xsc (ix (s.1 + (1 : Int32)))), .inr (.inr (0, 0))] s.2 _
                  refine go_blk h.1 (is := [.aload_n 0, .iload_n 3, .bipush 6, .iadd]) (pc' := 419) (ls' := [some (.inr (.inr (60, 0))), some (.inr (.inr (0, 0))), some (.inr (.inr (30, 0))), some (.inl s.1)]) (st' := [.inl (s.1 + (6 : Int32)), .inr (.inr (60, 0)), .inl (xsc (ix (s.1 + (5 : Int32)))), .inl (xsc (ix (s.1 + (4 : Int32)))), .inl (xsc (ix (s.1 + (3 : Int32)))), .inl (xsc (ix (s.1 + (2 : Int32)))), .inl (xsc (ix (s.1 + (1 : Int32)))), .inr (.inr (0, 0))]) (m' := s.2) (by decide +kernel) rfl ?_
                  refine go_sld h (by decide +kernel) (fun b419 => ?_)
                  show Go X (El X) 420 [some (.inr (.inr (60, 0))), some (.inr (.inr (0, 0))), some (.inr (.inr (30, 0))), some (.inl s.1)] [.inl (xsc (ix (s.1 + (6 : Int32)))), .inl (xsc (ix (s.1 + (5 : Int32)))), .inl (xsc (ix (s.1 + (4 : Int32)))), .inl (xsc (ix (s.1 + (3 : Int32)))), .inl (xsc (ix (s.1 + (2 : Int32)))), .inl (xsc (ix (s.1 + (1 : Int32)))), .inr (.inr (0, 0))] s.2 _
                  refine go_callV h.1 (index := 41) (n := 6) (t := 0) (i := 0) (ci := 6) (nf := 7) (cz := (RX6, TX6, 7)) (as := [.inl (xsc (ix (s.1 + (1 : Int32)))), .inl (xsc (ix (s.1 + (2 : Int32)))), .inl (xsc (ix (s.1 + (3 : Int32)))), .inl (xsc (ix (s.1 + (4 : Int32)))), .inl (xsc (ix (s.1 + (5 : Int32)))), .inl (xsc (ix (s.1 + (6 : Int32))))]) (rest := []) (ctr_X6_owes (xl X) (xA X) (xC X) (xI X) (xk X) (xsc (ix (s.1 + (1 : Int32)))) (xsc (ix (s.1 + (2 : Int32)))) (xsc (ix (s.1 + (3 : Int32)))) (xsc (ix (s.1 + (4 : Int32)))) (xsc (ix (s.1 + (5 : Int32)))) (xsc (ix (s.1 + (6 : Int32)))) s.2) (by decide +kernel) rfl rfl wd_v_L_41 rfl (h.room (by first | decide | omega) (by decide)) h.cl (Nat.le_of_ble_eq_true rfl) puI_ok rfl (fun r420 m420 _ => ?_)
                  show Go X (El X) 423 [some (.inr (.inr (60, 0))), some (.inr (.inr (0, 0))), some (.inr (.inr (30, 0))), some (.inl s.1)] [.inl r420] m420 _
                  refine go_blk h.1 (is := [.aload_n 2, .aload_n 0, .iload_n 3, .iconst 1, .iadd]) (pc' := 428) (ls' := [some (.inr (.inr (60, 0))), some (.inr (.inr (0, 0))), some (.inr (.inr (30, 0))), some (.inl s.1)]) (st' := [.inl (s.1 + (1 : Int32)), .inr (.inr (60, 0)), .inr (.inr (30, 0)), .inl r420]) (m' := m420) (by decide +kernel) rfl ?_
                  refine go_sld h (by decide +kernel) (fun b428 => ?_)
                  show Go X (El X) 429 [some (.inr (.inr (60, 0))), some (.inr (.inr (0, 0))), some (.inr (.inr (30, 0))), some (.inl s.1)] [.inl (xsc (ix (s.1 + (1 : Int32)))), .inr (.inr (30, 0)), .inl r420] m420 _
                  refine go_blk h.1 (is := [.aload_n 0, .iload_n 3, .iconst 2, .iadd]) (pc' := 433) (ls' := [some (.inr (.inr (60, 0))), some (.inr (.inr (0, 0))), some (.inr (.inr (30, 0))), some (.inl s.1)]) (st' := [.inl (s.1 + (2 : Int32)), .inr (.inr (60, 0)), .inl (xsc (ix (s.1 + (1 : Int32)))), .inr (.inr (30, 0)), .inl r420]) (m' := m420) (by decide +kernel) rfl ?_
                  refine go_sld h (by decide +kernel) (fun b433 => ?_)
                  show Go X (El X) 434 [some (.inr (.inr (60, 0))), some (.inr (.inr (0, 0))), some (.inr (.inr (30, 0))), some (.inl s.1)] [.inl (xsc (ix (s.1 + (2 : Int32)))), .inl (xsc (ix (s.1 + (1 : Int32)))), .inr (.inr (30, 0)), .inl r420] m420 _
                  refine go_blk h.1 (is := [.aload_n 0, .iload_n 3, .iconst 3, .iadd]) (pc' := 438) (ls' := [some (.inr (.inr (60, 0))), some (.inr (.inr (0, 0))), some (.inr (.inr (30, 0))), some (.inl s.1)]) (st' := [.inl (s.1 + (3 : Int32)), .inr (.inr (60, 0)), .inl (xsc (ix (s.1 + (2 : Int32)))), .inl (xsc (ix (s.1 + (1 : Int32)))), .inr (.inr (30, 0)), .inl r420]) (m' := m420) (by decide +kernel) rfl ?_
                  refine go_sld h (by decide +kernel) (fun b438 => ?_)
                  show Go X (El X) 439 [some (.inr (.inr (60, 0))), some (.inr (.inr (0, 0))), some (.inr (.inr (30, 0))), some (.inl s.1)] [.inl (xsc (ix (s.1 + (3 : Int32)))), .inl (xsc (ix (s.1 + (2 : Int32)))), .inl (xsc (ix (s.1 + (1 : Int32)))), .inr (.inr (30, 0)), .inl r420] m420 _
                  refine go_blk h.1 (is := [.aload_n 0, .iload_n 3, .iconst 4, .iadd]) (pc' := 443) (ls' := [some (.inr (.inr (60, 0))), some (.inr (.inr (0, 0))), some (.inr (.inr (30, 0))), some (.inl s.1)]) (st' := [.inl (s.1 + (4 : Int32)), .inr (.inr (60, 0)), .inl (xsc (ix (s.1 + (3 : Int32)))), .inl (xsc (ix (s.1 + (2 : Int32)))), .inl (xsc (ix (s.1 + (1 : Int32)))), .inr (.inr (30, 0)), .inl r420]) (m' := m420) (by decide +kernel) rfl ?_
                  refine go_sld h (by decide +kernel) (fun b443 => ?_)
                  show Go X (El X) 444 [some (.inr (.inr (60, 0))), some (.inr (.inr (0, 0))), some (.inr (.inr (30, 0))), some (.inl s.1)] [.inl (xsc (ix (s.1 + (4 : Int32)))), .inl (xsc (ix (s.1 + (3 : Int32)))), .inl (xsc (ix (s.1 + (2 : Int32)))), .inl (xsc (ix (s.1 + (1 : Int32)))), .inr (.inr (30, 0)), .inl r420] m420 _
                  refine go_blk h.1 (is := [.aload_n 0, .iload_n 3, .iconst 5, .iadd]) (pc' := 448) (ls' := [some (.inr (.inr (60, 0))), some (.inr (.inr (0, 0))), some (.inr (.inr (30, 0))), some (.inl s.1)]) (st' := [.inl (s.1 + (5 : Int32)), .inr (.inr (60, 0)), .inl (xsc (ix (s.1 + (4 : Int32)))), .inl (xsc (ix (s.1 + (3 : Int32)))), .inl (xsc (ix (s.1 + (2 : Int32)))), .inl (xsc (ix (s.1 + (1 : Int32)))), .inr (.inr (30, 0)), .inl r420]) (m' := m420) (by decide +kernel) rfl ?_
                  refine go_sld h (by decide +kernel) (fun b448 => ?_)
                  show Go X (El X) 449 [some (.inr (.inr (60, 0))), some (.inr (.inr (0, 0))), some (.inr (.inr (30, 0))), some (.inl s.1)] [.inl (xsc (ix (s.1 + (5 : Int32)))), .inl (xsc (ix (s.1 + (4 : Int32)))), .inl (xsc (ix (s.1 + (3 : Int32)))), .inl (xsc (ix (s.1 + (2 : Int32)))), .inl (xsc (ix (s.1 + (1 : Int32)))), .inr (.inr (30, 0)), .inl r420] m420 _
                  refine go_blk h.1 (is := [.aload_n 0, .iload_n 3, .bipush 6, .iadd]) (pc' := 454) (ls' := [some (.inr (.inr (60, 0))), some (.inr (.inr (0, 0))), some (.inr (.inr (30, 0))), some (.inl s.1)]) (st' := [.inl (s.1 + (6 : Int32)), .inr (.inr (60, 0)), .inl (xsc (ix (s.1 + (5 : Int32)))), .inl (xsc (ix (s.1 + (4 : Int32)))), .inl (xsc (ix (s.1 + (3 : Int32)))), .inl (xsc (ix (s.1 + (2 : Int32)))), .inl (xsc (ix (s.1 + (1 : Int32)))), .inr (.inr (30, 0)), .inl r420]) (m' := m420) (by decide +kernel) rfl ?_
                  refine go_sld h (by decide +kernel) (fun b454 => ?_)
                  show Go X (El X) 455 [some (.inr (.inr (60, 0))), some (.inr (.inr (0, 0))), some (.inr (.inr (30, 0))), some (.inl s.1)] [.inl (xsc (ix (s.1 + (6 : Int32)))), .inl (xsc (ix (s.1 + (5 : Int32)))), .inl (xsc (ix (s.1 + (4 : Int32)))), .inl (xsc (ix (s.1 + (3 : Int32)))), .inl (xsc (ix (s.1 + (2 : Int32)))), .inl (xsc (ix (s.1 + (1 : Int32)))), .inr (.inr (30, 0)), .inl r420] m420 _
                  refine go_callV h.1 (index := 45) (n := 6) (t := 30) (i := 0) (ci := 7) (nf := 35) (cz := (RX7, TX7, 35)) (as := [.inl (xsc (ix (s.1 + (1 : Int32)))), .inl (xsc (ix (s.1 + (2 : Int32)))), .inl (xsc (ix (s.1 + (3 : Int32)))), .inl (xsc (ix (s.1 + (4 : Int32)))), .inl (xsc (ix (s.1 + (5 : Int32)))), .inl (xsc (ix (s.1 + (6 : Int32))))]) (rest := [.inl r420]) (ctr_X7_owes (xl X) (xA X) (xC X) (xI X) (xk X) (xsc (ix (s.1 + (1 : Int32)))) (xsc (ix (s.1 + (2 : Int32)))) (xsc (ix (s.1 + (3 : Int32)))) (xsc (ix (s.1 + (4 : Int32)))) (xsc (ix (s.1 + (5 : Int32)))) (xsc (ix (s.1 + (6 : Int32)))) m420) (by decide +kernel) rfl rfl wd_v_L_45 rfl (h.room (by first | decide | omega) (by decide)) h.cl (Nat.le_of_ble_eq_true rfl) puI_ok rfl (fun r455 m455 _ => ?_)
                  show Go X (El X) 458 [some (.inr (.inr (60, 0))), some (.inr (.inr (0, 0))), some (.inr (.inr (30, 0))), some (.inl s.1)] [.inl r455, .inl r420] m455 _
                  refine go_icmpeq h.1 (off := 860) 1318 (by decide +kernel) (by decide) (fun c458 => ?_) (fun c458 => ?_)
                  · exact g_L_law_j1318 L xsc h next exit s.1 m455 hn hx
                  · refine go_blk h.1 (is := [.iconst 0]) (pc' := 462) (ls' := [some (.inr (.inr (60, 0))), some (.inr (.inr (0, 0))), some (.inr (.inr (30, 0))), some (.inl s.1)]) (st' := [.inl (0 : Int32)]) (m' := m455) (by decide +kernel) rfl ?_
                    exact go_law0
                · refine go_ite (fun w33_7 => ?_) (fun w33_7 => ?_)
                  · refine go_tsIn h.1 (dflt := 1285) (lo := 0) (hi := 27) (offs := #[127, 180, 213, 236, 269, 292, 355, 430, 493, 526, 579, 642, 675, 698, 761, 814, 877, 941, 984, 1007, 1050, 1094, 1157, 1180, 1203, 1236, 1249, 1262]) (len := 127) (off := 430) (7 : Int32) 463 w33_7 (by decide +kernel) (by decide) rfl (by decide) ?_
                    refine go_blk h.1 (is := [.aload_n 1, .aload_n 0, .iload_n 3, .iconst 1, .iadd]) (pc' := 468) (ls' := [some (.inr (.inr (60, 0))), some (.inr (.inr (0, 0))), some (.inr (.inr (30, 0))), some (.inl s.1)]) (st' := [.inl (s.1 + (1 : Int32)), .inr (.inr (60, 0)), .inr (.inr (0, 0))]) (m' := s.2) (by decide +kernel) rfl ?_
                    refine go_sld h (by decide +kernel) (fun b468 => ?_)
                    show Go X (El X) 469 [some (.inr (.inr (60, 0))), some (.inr (.inr (0, 0))), some (.inr (.inr (30, 0))), some (.inl s.1)] [.inl (xsc (ix (s.1 + (1 : Int32)))), .inr (.inr (0, 0))] s.2 _
                    refine go_blk h.1 (is := [.aload_n 0, .iload_n 3, .iconst 2, .iadd]) (pc' := 473) (ls' := [some (.inr (.inr (60, 0))), some (.inr (.inr (0, 0))), some (.inr (.inr (30, 0))), some (.inl s.1)]) (st' := [.inl (s.1 + (2 : Int32)), .inr (.inr (60, 0)), .inl (xsc (ix (s.1 + (1 : Int32)))), .inr (.inr (0, 0))]) (m' := s.2) (by decide +kernel) rfl ?_
                    refine go_sld h (by decide +kernel) (fun b473 => ?_)
                    show Go X (El X) 474 [some (.inr (.inr (60, 0))), some (.inr (.inr (0, 0))), some (.inr (.inr (30, 0))), some (.inl s.1)] [.inl (xsc (ix (s.1 + (2 : Int32)))), .inl (xsc (ix (s.1 + (1 : Int32)))), .inr (.inr (0, 0))] s.2 _
                    refine go_blk h.1 (is := [.aload_n 0, .iload_n 3, .iconst 3, .iadd]) (pc' := 478) (ls' := [some (.inr (.inr (60, 0))), some (.inr (.inr (0, 0))), some (.inr (.inr (30, 0))), some (.inl s.1)]) (st' := [.inl (s.1 + (3 : Int32)), .inr (.inr (60, 0)), .inl (xsc (ix (s.1 + (2 : Int32)))), .inl (xsc (ix (s.1 + (1 : Int32)))), .inr (.inr (0, 0))]) (m' := s.2) (by decide +kernel) rfl ?_
                    refine go_sld h (by decide +kernel) (fun b478 => ?_)
                    show Go X (El X) 479 [some (.inr (.inr (60, 0))), some (.inr (.inr (0, 0))), some (.inr (.inr (30, 0))), some (.inl s.1)] [.inl (xsc (ix (s.1 + (3 : Int32)))), .inl (xsc (ix (s.1 + (2 : Int32)))), .inl (xsc (ix (s.1 + (1 : Int32)))), .inr (.inr (0, 0))] s.2 _
                    refine go_blk h.1 (is := [.aload_n 0, .iload_n 3, .iconst 4, .iadd]) (pc' := 483) (ls' := [some (.inr (.inr (60, 0))), some (.inr (.inr (0, 0))), some (.inr (.inr (30, 0))), some (.inl s.1)]) (st' := [.inl (s.1 + (4 : Int32)), .inr (.inr (60, 0)), .inl (xsc (ix (s.1 + (3 : Int32)))), .inl (xsc (ix (s.1 + (2 : Int32)))), .inl (xsc (ix (s.1 + (1 : Int32)))), .inr (.inr (0, 0))]) (m' := s.2) (by decide +kernel) rfl ?_
                    refine go_sld h (by decide +kernel) (fun b483 => ?_)
                    show Go X (El X) 484 [some (.inr (.inr (60, 0))), some (.inr (.inr (0, 0))), some (.inr (.inr (30, 0))), some (.inl s.1)] [.inl (xsc (ix (s.1 + (4 : Int32)))), .inl (xsc (ix (s.1 + (3 : Int32)))), .inl (xsc (ix (s.1 + (2 : Int32)))), .inl (xsc (ix (s.1 + (1 : Int32)))), .inr (.inr (0, 0))] s.2 _
                    refine go_blk h.1 (is := [.aload_n 0, .iload_n 3, .iconst 5, .iadd]) (pc' := 488) (ls' := [some (.inr (.inr (60, 0))), some (.inr (.inr (0, 0))), some (.inr (.inr (30, 0))), some (.inl s.1)]) (st' := [.inl (s.1 + (5 : Int32)), .inr (.inr (60, 0)), .inl (xsc (ix (s.1 + (4 : Int32)))), .inl (xsc (ix (s.1 + (3 : Int32)))), .inl (xsc (ix (s.1 + (2 : Int32)))), .inl (xsc (ix (s.1 + (1 : Int32)))), .inr (.inr (0, 0))]) (m' := s.2) (by decide +kernel) rfl ?_
                    refine go_sld h (by decide +kernel) (fun b488 => ?_)
                    show Go X (El X) 489 [some (.inr (.inr (60, 0))), some (.inr (.inr (0, 0))), some (.inr (.inr (30, 0))), some (.inl s.1)] [.inl (xsc (ix (s.1 + (5 : Int32)))), .inl (xsc (ix (s.1 + (4 : Int32)))), .inl (xsc (ix (s.1 + (3 : Int32)))), .inl (xsc (ix (s.1 + (2 : Int32)))), .inl (xsc (ix (s.1 + (1 : Int32)))), .inr (.inr (0, 0))] s.2 _
                    refine go_callV h.1 (index := 46) (n := 5) (t := 0) (i := 0) (ci := 6) (nf := 7) (cz := (RX6, TX6, 7)) (as := [.inl (xsc (ix (s.1 + (1 : Int32)))), .inl (xsc (ix (s.1 + (2 : Int32)))), .inl (xsc (ix (s.1 + (3 : Int32)))), .inl (xsc (ix (s.1 + (4 : Int32)))), .inl (xsc (ix (s.1 + (5 : Int32))))]) (rest := []) (ctr_X6_toll (xl X) (xA X) (xC X) (xI X) (xk X) (xsc (ix (s.1 + (1 : Int32)))) (xsc (ix (s.1 + (2 : Int32)))) (xsc (ix (s.1 + (3 : Int32)))) (xsc (ix (s.1 + (4 : Int32)))) (xsc (ix (s.1 + (5 : Int32)))) s.2) (by decide +kernel) rfl rfl wd_v_L_46 rfl (h.room (by first | decide | omega) (by decide)) h.cl (Nat.le_of_ble_eq_true rfl) puI_ok rfl (fun r489 m489 _ => ?_)
                    show Go X (El X) 492 [some (.inr (.inr (60, 0))), some (.inr (.inr (0, 0))), some (.inr (.inr (30, 0))), some (.inl s.1)] [.inl r489] m489 _
                    refine go_blk h.1 (is := [.aload_n 2, .aload_n 0, .iload_n 3, .iconst 1, .iadd]) (pc' := 497) (ls' := [some (.inr (.inr (60, 0))), some (.inr (.inr (0, 0))), some (.inr (.inr (30, 0))), some (.inl s.1)]) (st' := [.inl (s.1 + (1 : Int32)), .inr (.inr (60, 0)), .inr (.inr (30, 0)), .inl r489]) (m' := m489) (by decide +kernel) rfl ?_
                    refine go_sld h (by decide +kernel) (fun b497 => ?_)
                    show Go X (El X) 498 [some (.inr (.inr (60, 0))), some (.inr (.inr (0, 0))), some (.inr (.inr (30, 0))), some (.inl s.1)] [.inl (xsc (ix (s.1 + (1 : Int32)))), .inr (.inr (30, 0)), .inl r489] m489 _
                    refine go_blk h.1 (is := [.aload_n 0, .iload_n 3, .iconst 2, .iadd]) (pc' := 502) (ls' := [some (.inr (.inr (60, 0))), some (.inr (.inr (0, 0))), some (.inr (.inr (30, 0))), some (.inl s.1)]) (st' := [.inl (s.1 + (2 : Int32)), .inr (.inr (60, 0)), .inl (xsc (ix (s.1 + (1 : Int32)))), .inr (.inr (30, 0)), .inl r489]) (m' := m489) (by decide +kernel) rfl ?_
                    refine go_sld h (by decide +kernel) (fun b502 => ?_)
                    show Go X (El X) 503 [some (.inr (.inr (60, 0))), some (.inr (.inr (0, 0))), some (.inr (.inr (30, 0))), some (.inl s.1)] [.inl (xsc (ix (s.1 + (2 : Int32)))), .inl (xsc (ix (s.1 + (1 : Int32)))), .inr (.inr (30, 0)), .inl r489] m489 _
                    refine go_blk h.1 (is := [.aload_n 0, .iload_n 3, .iconst 3, .iadd]) (pc' := 507) (ls' := [some (.inr (.inr (60, 0))), some (.inr (.inr (0, 0))), some (.inr (.inr (30, 0))), some (.inl s.1)]) (st' := [.inl (s.1 + (3 : Int32)), .inr (.inr (60, 0)), .inl (xsc (ix (s.1 + (2 : Int32)))), .inl (xsc (ix (s.1 + (1 : Int32)))), .inr (.inr (30, 0)), .inl r489]) (m' := m489) (by decide +kernel) rfl ?_
                    refine go_sld h (by decide +kernel) (fun b507 => ?_)
                    show Go X (El X) 508 [some (.inr (.inr (60, 0))), some (.inr (.inr (0, 0))), some (.inr (.inr (30, 0))), some (.inl s.1)] [.inl (xsc (ix (s.1 + (3 : Int32)))), .inl (xsc (ix (s.1 + (2 : Int32)))), .inl (xsc (ix (s.1 + (1 : Int32)))), .inr (.inr (30, 0)), .inl r489] m489 _
                    refine go_blk h.1 (is := [.aload_n 0, .iload_n 3, .iconst 4, .iadd]) (pc' := 512) (ls' := [some (.inr (.inr (60, 0))), some (.inr (.inr (0, 0))), some (.inr (.inr (30, 0))), some (.inl s.1)]) (st' := [.inl (s.1 + (4 : Int32)), .inr (.inr (60, 0)), .inl (xsc (ix (s.1 + (3 : Int32)))), .inl (xsc (ix (s.1 + (2 : Int32)))), .inl (xsc (ix (s.1 + (1 : Int32)))), .inr (.inr (30, 0)), .inl r489]) (m' := m489) (by decide +kernel) rfl ?_
                    refine go_sld h (by decide +kernel) (fun b512 => ?_)
                    show Go X (El X) 513 [some (.inr (.inr (60, 0))), some (.inr (.inr (0, 0))), some (.inr (.inr (30, 0))), some (.inl s.1)] [.inl (xsc (ix (s.1 + (4 : Int32)))), .inl (xsc (ix (s.1 + (3 : Int32)))), .inl (xsc (ix (s.1 + (2 : Int32)))), .inl (xsc (ix (s.1 + (1 : Int32)))), .inr (.inr (30, 0)), .inl r489] m489 _
                    refine go_blk h.1 (is := [.aload_n 0, .iload_n 3, .iconst 5, .iadd]) (pc' := 517) (ls' := [some (.inr (.inr (60, 0))), some (.inr (.inr (0, 0))), some (.inr (.inr (30, 0))), some (.inl s.1)]) (st' := [.inl (s.1 + (5 : Int32)), .inr (.inr (60, 0)), .inl (xsc (ix (s.1 + (4 : Int32)))), .inl (xsc (ix (s.1 + (3 : Int32)))), .inl (xsc (ix (s.1 + (2 : Int32)))), .inl (xsc (ix (s.1 + (1 : Int32)))), .inr (.inr (30, 0)), .inl r489]) (m' := m489) (by decide +kernel) rfl ?_
                    refine go_sld h (by decide +kernel) (fun b517 => ?_)
                    show Go X (El X) 518 [some (.inr (.inr (60, 0))), some (.inr (.inr (0, 0))), some (.inr (.inr (30, 0))), some (.inl s.1)] [.inl (xsc (ix (s.1 + (5 : Int32)))), .inl (xsc (ix (s.1 + (4 : Int32)))), .inl (xsc (ix (s.1 + (3 : Int32)))), .inl (xsc (ix (s.1 + (2 : Int32)))), .inl (xsc (ix (s.1 + (1 : Int32)))), .inr (.inr (30, 0)), .inl r489] m489 _
                    refine go_callV h.1 (index := 49) (n := 5) (t := 30) (i := 0) (ci := 7) (nf := 35) (cz := (RX7, TX7, 35)) (as := [.inl (xsc (ix (s.1 + (1 : Int32)))), .inl (xsc (ix (s.1 + (2 : Int32)))), .inl (xsc (ix (s.1 + (3 : Int32)))), .inl (xsc (ix (s.1 + (4 : Int32)))), .inl (xsc (ix (s.1 + (5 : Int32))))]) (rest := [.inl r489]) (ctr_X7_toll (xl X) (xA X) (xC X) (xI X) (xk X) (xsc (ix (s.1 + (1 : Int32)))) (xsc (ix (s.1 + (2 : Int32)))) (xsc (ix (s.1 + (3 : Int32)))) (xsc (ix (s.1 + (4 : Int32)))) (xsc (ix (s.1 + (5 : Int32)))) m489) (by decide +kernel) rfl rfl wd_v_L_49 rfl (h.room (by first | decide | omega) (by decide)) h.cl (Nat.le_of_ble_eq_true rfl) puI_ok rfl (fun r518 m518 _ => ?_)
                    show Go X (El X) 521 [some (.inr (.inr (60, 0))), some (.inr (.inr (0, 0))), some (.inr (.inr (30, 0))), some (.inl s.1)] [.inl r518, .inl r489] m518 _
                    refine go_icmpeq h.1 (off := 797) 1318 (by decide +kernel) (by decide) (fun c521 => ?_) (fun c521 => ?_)
                    · exact g_L_law_j1318 L xsc h next exit s.1 m518 hn hx
                    · refine go_blk h.1 (is := [.iconst 0]) (pc' := 525) (ls' := [some (.inr (.inr (60, 0))), some (.inr (.inr (0, 0))), some (.inr (.inr (30, 0))), some (.inl s.1)]) (st' := [.inl (0 : Int32)]) (m' := m518) (by decide +kernel) rfl ?_
                      exact go_law0
                  · refine go_ite (fun w33_8 => ?_) (fun w33_8 => ?_)
                    · refine go_tsIn h.1 (dflt := 1285) (lo := 0) (hi := 27) (offs := #[127, 180, 213, 236, 269, 292, 355, 430, 493, 526, 579, 642, 675, 698, 761, 814, 877, 941, 984, 1007, 1050, 1094, 1157, 1180, 1203, 1236, 1249, 1262]) (len := 127) (off := 493) (8 : Int32) 526 w33_8 (by decide +kernel) (by decide) rfl (by decide) ?_
                      refine go_blk h.1 (is := [.aload_n 1, .aload_n 0, .iload_n 3, .iconst 1, .iadd]) (pc' := 531) (ls' := [some (.inr (.inr (60, 0))), some (.inr (.inr (0, 0))), some (.inr (.inr (30, 0))), some (.inl s.1)]) (st' := [.inl (s.1 + (1 : Int32)), .inr (.inr (60, 0)), .inr (.inr (0, 0))]) (m' := s.2) (by decide +kernel) rfl ?_
                      refine go_sld h (by decide +kernel) (fun b531 => ?_)
                      show Go X (El X) 532 [some (.inr (.inr (60, 0))), some (.inr (.inr (0, 0))), some (.inr (.inr (30, 0))), some (.inl s.1)] [.inl (xsc (ix (s.1 + (1 : Int32)))), .inr (.inr (0, 0))] s.2 _
                      refine go_blk h.1 (is := [.aload_n 0, .iload_n 3, .iconst 2, .iadd]) (pc' := 536) (ls' := [some (.inr (.inr (60, 0))), some (.inr (.inr (0, 0))), some (.inr (.inr (30, 0))), some (.inl s.1)]) (st' := [.inl (s.1 + (2 : Int32)), .inr (.inr (60, 0)), .inl (xsc (ix (s.1 + (1 : Int32)))), .inr (.inr (0, 0))]) (m' := s.2) (by decide +kernel) rfl ?_
                      refine go_sld h (by decide +kernel) (fun b536 => ?_)
                      show Go X (El X) 537 [some (.inr (.inr (60, 0))), some (.inr (.inr (0, 0))), some (.inr (.inr (30, 0))), some (.inl s.1)] [.inl (xsc (ix (s.1 + (2 : Int32)))), .inl (xsc (ix (s.1 + (1 : Int32)))), .inr (.inr (0, 0))] s.2 _
                      refine go_callV h.1 (index := 50) (n := 2) (t := 0) (i := 0) (ci := 6) (nf := 7) (cz := (RX6, TX6, 7)) (as := [.inl (xsc (ix (s.1 + (1 : Int32)))), .inl (xsc (ix (s.1 + (2 : Int32))))]) (rest := []) (ctr_X6_least (xl X) (xA X) (xC X) (xI X) (xk X) (xsc (ix (s.1 + (1 : Int32)))) (xsc (ix (s.1 + (2 : Int32)))) s.2) (by decide +kernel) rfl rfl wd_v_L_50 rfl (h.room (by first | decide | omega) (by decide)) h.cl (Nat.le_of_ble_eq_true rfl) puI_ok rfl (fun r537 m537 _ => ?_)
                      show Go X (El X) 540 [some (.inr (.inr (60, 0))), some (.inr (.inr (0, 0))), some (.inr (.inr (30, 0))), some (.inl s.1)] [.inl r537] m537 _
                      refine go_blk h.1 (is := [.aload_n 2, .aload_n 0, .iload_n 3, .iconst 1, .iadd]) (pc' := 545) (ls' := [some (.inr (.inr (60, 0))), some (.inr (.inr (0, 0))), some (.inr (.inr (30, 0))), some (.inl s.1)]) (st' := [.inl (s.1 + (1 : Int32)), .inr (.inr (60, 0)), .inr (.inr (30, 0)), .inl r537]) (m' := m537) (by decide +kernel) rfl ?_
                      refine go_sld h (by decide +kernel) (fun b545 => ?_)
                      show Go X (El X) 546 [some (.inr (.inr (60, 0))), some (.inr (.inr (0, 0))), some (.inr (.inr (30, 0))), some (.inl s.1)] [.inl (xsc (ix (s.1 + (1 : Int32)))), .inr (.inr (30, 0)), .inl r537] m537 _
                      refine go_blk h.1 (is := [.aload_n 0, .iload_n 3, .iconst 2, .iadd]) (pc' := 550) (ls' := [some (.inr (.inr (60, 0))), some (.inr (.inr (0, 0))), some (.inr (.inr (30, 0))), some (.inl s.1)]) (st' := [.inl (s.1 + (2 : Int32)), .inr (.inr (60, 0)), .inl (xsc (ix (s.1 + (1 : Int32)))), .inr (.inr (30, 0)), .inl r537]) (m' := m537) (by decide +kernel) rfl ?_
                      refine go_sld h (by decide +kernel) (fun b550 => ?_)
                      show Go X (El X) 551 [some (.inr (.inr (60, 0))), some (.inr (.inr (0, 0))), some (.inr (.inr (30, 0))), some (.inl s.1)] [.inl (xsc (ix (s.1 + (2 : Int32)))), .inl (xsc (ix (s.1 + (1 : Int32)))), .inr (.inr (30, 0)), .inl r537] m537 _
                      refine go_callV h.1 (index := 53) (n := 2) (t := 30) (i := 0) (ci := 7) (nf := 35) (cz := (RX7, TX7, 35)) (as := [.inl (xsc (ix (s.1 + (1 : Int32)))), .inl (xsc (ix (s.1 + (2 : Int32))))]) (rest := [.inl r537]) (ctr_X7_least (xl X) (xA X) (xC X) (xI X) (xk X) (xsc (ix (s.1 + (1 : Int32)))) (xsc (ix (s.1 + (2 : Int32)))) m537) (by decide +kernel) rfl rfl wd_v_L_53 rfl (h.room (by first | decide | omega) (by decide)) h.cl (Nat.le_of_ble_eq_true rfl) puI_ok rfl (fun r551 m551 _ => ?_)
                      show Go X (El X) 554 [some (.inr (.inr (60, 0))), some (.inr (.inr (0, 0))), some (.inr (.inr (30, 0))), some (.inl s.1)] [.inl r551, .inl r537] m551 _
                      refine go_icmpeq h.1 (off := 764) 1318 (by decide +kernel) (by decide) (fun c554 => ?_) (fun c554 => ?_)
                      · exact g_L_law_j1318 L xsc h next exit s.1 m551 hn hx
                      · refine go_blk h.1 (is := [.iconst 0]) (pc' := 558) (ls' := [some (.inr (.inr (60, 0))), some (.inr (.inr (0, 0))), some (.inr (.inr (30, 0))), some (.inl s.1)]) (st' := [.inl (0 : Int32)]) (m' := m551) (by decide +kernel) rfl ?_
                        exact go_law0
                    · refine go_ite (fun w33_9 => ?_) (fun w33_9 => ?_)
                      · refine go_tsIn h.1 (dflt := 1285) (lo := 0) (hi := 27) (offs := #[127, 180, 213, 236, 269, 292, 355, 430, 493, 526, 579, 642, 675, 698, 761, 814, 877, 941, 984, 1007, 1050, 1094, 1157, 1180, 1203, 1236, 1249, 1262]) (len := 127) (off := 526) (9 : Int32) 559 w33_9 (by decide +kernel) (by decide) rfl (by decide) ?_
                        refine go_blk h.1 (is := [.aload_n 1, .aload_n 0, .iload_n 3, .iconst 1, .iadd]) (pc' := 564) (ls' := [some (.inr (.inr (60, 0))), some (.inr (.inr (0, 0))), some (.inr (.inr (30, 0))), some (.inl s.1)]) (st' := [.inl (s.1 + (1 : Int32)), .inr (.inr (60, 0)), .inr (.inr (0, 0))]) (m' := s.2) (by decide +kernel) rfl ?_
                        refine go_sld h (by decide +kernel) (fun b564 => ?_)
                        show Go X (El X) 565 [some (.inr (.inr (60, 0))), some (.inr (.inr (0, 0))), some (.inr (.inr (30, 0))), some (.inl s.1)] [.inl (xsc (ix (s.1 + (1 : Int32)))), .inr (.inr (0, 0))] s.2 _
                        refine go_blk h.1 (is := [.aload_n 0, .iload_n 3, .iconst 2, .iadd]) (pc' := 569) (ls' := [some (.inr (.inr (60, 0))), some (.inr (.inr (0, 0))), some (.inr (.inr (30, 0))), some (.inl s.1)]) (st' := [.inl (s.1 + (2 : Int32)), .inr (.inr (60, 0)), .inl (xsc (ix (s.1 + (1 : Int32)))), .inr (.inr (0, 0))]) (m' := s.2) (by decide +kernel) rfl ?_
                        refine go_sld h (by decide +kernel) (fun b569 => ?_)
                        show Go X (El X) 570 [some (.inr (.inr (60, 0))), some (.inr (.inr (0, 0))), some (.inr (.inr (30, 0))), some (.inl s.1)] [.inl (xsc (ix (s.1 + (2 : Int32)))), .inl (xsc (ix (s.1 + (1 : Int32)))), .inr (.inr (0, 0))] s.2 _
                        refine go_blk h.1 (is := [.aload_n 0, .iload_n 3, .iconst 3, .iadd]) (pc' := 574) (ls' := [some (.inr (.inr (60, 0))), some (.inr (.inr (0, 0))), some (.inr (.inr (30, 0))), some (.inl s.1)]) (st' := [.inl (s.1 + (3 : Int32)), .inr (.inr (60, 0)), .inl (xsc (ix (s.1 + (2 : Int32)))), .inl (xsc (ix (s.1 + (1 : Int32)))), .inr (.inr (0, 0))]) (m' := s.2) (by decide +kernel) rfl ?_
                        refine go_sld h (by decide +kernel) (fun b574 => ?_)
                        show Go X (El X) 575 [some (.inr (.inr (60, 0))), some (.inr (.inr (0, 0))), some (.inr (.inr (30, 0))), some (.inl s.1)] [.inl (xsc (ix (s.1 + (3 : Int32)))), .inl (xsc (ix (s.1 + (2 : Int32)))), .inl (xsc (ix (s.1 + (1 : Int32)))), .inr (.inr (0, 0))] s.2 _
                        refine go_blk h.1 (is := [.aload_n 0, .iload_n 3, .iconst 4, .iadd]) (pc' := 579) (ls' := [some (.inr (.inr (60, 0))), some (.inr (.inr (0, 0))), some (.inr (.inr (30, 0))), some (.inl s.1)]) (st' := [.inl (s.1 + (4 : Int32)), .inr (.inr (60, 0)), .inl (xsc (ix (s.1 + (3 : Int32)))), .inl (xsc (ix (s.1 + (2 : Int32)))), .inl (xsc (ix (s.1 + (1 : Int32)))), .inr (.inr (0, 0))]) (m' := s.2) (by decide +kernel) rfl ?_
                        refine go_sld h (by decide +kernel) (fun b579 => ?_)
                        show Go X (El X) 580 [some (.inr (.inr (60, 0))), some (.inr (.inr (0, 0))), some (.inr (.inr (30, 0))), some (.inl s.1)] [.inl (xsc (ix (s.1 + (4 : Int32)))), .inl (xsc (ix (s.1 + (3 : Int32)))), .inl (xsc (ix (s.1 + (2 : Int32)))), .inl (xsc (ix (s.1 + (1 : Int32)))), .inr (.inr (0, 0))] s.2 _
                        refine go_callV h.1 (index := 54) (n := 4) (t := 0) (i := 0) (ci := 6) (nf := 7) (cz := (RX6, TX6, 7)) (as := [.inl (xsc (ix (s.1 + (1 : Int32)))), .inl (xsc (ix (s.1 + (2 : Int32)))), .inl (xsc (ix (s.1 + (3 : Int32)))), .inl (xsc (ix (s.1 + (4 : Int32))))]) (rest := []) (ctr_X6_payments (xl X) (xA X) (xC X) (xI X) (xk X) (xsc (ix (s.1 + (1 : Int32)))) (xsc (ix (s.1 + (2 : Int32)))) (xsc (ix (s.1 + (3 : Int32)))) (xsc (ix (s.1 + (4 : Int32)))) s.2) (by decide +kernel) rfl rfl wd_v_L_54 rfl (h.room (by first | decide | omega) (by decide)) h.cl (Nat.le_of_ble_eq_true rfl) puI_ok rfl (fun r580 m580 _ => ?_)
                        show Go X (El X) 583 [some (.inr (.inr (60, 0))), some (.inr (.inr (0, 0))), some (.inr (.inr (30, 0))), some (.inl s.1)] [.inl r580] m580 _
                        refine go_blk h.1 (is := [.aload_n 2, .aload_n 0, .iload_n 3, .iconst 1, .iadd]) (pc' := 588) (ls' := [some (.inr (.inr (60, 0))), some (.inr (.inr (0, 0))), some (.inr (.inr (30, 0))), some (.inl s.1)]) (st' := [.inl (s.1 + (1 : Int32)), .inr (.inr (60, 0)), .inr (.inr (30, 0)), .inl r580]) (m' := m580) (by decide +kernel) rfl ?_
                        refine go_sld h (by decide +kernel) (fun b588 => ?_)
                        show Go X (El X) 589 [some (.inr (.inr (60, 0))), some (.inr (.inr (0, 0))), some (.inr (.inr (30, 0))), some (.inl s.1)] [.inl (xsc (ix (s.1 + (1 : Int32)))), .inr (.inr (30, 0)), .inl r580] m580 _
                        refine go_blk h.1 (is := [.aload_n 0, .iload_n 3, .iconst 2, .iadd]) (pc' := 593) (ls' := [some (.inr (.inr (60, 0))), some (.inr (.inr (0, 0))), some (.inr (.inr (30, 0))), some (.inl s.1)]) (st' := [.inl (s.1 + (2 : Int32)), .inr (.inr (60, 0)), .inl (xsc (ix (s.1 + (1 : Int32)))), .inr (.inr (30, 0)), .inl r580]) (m' := m580) (by decide +kernel) rfl ?_
                        refine go_sld h (by decide +kernel) (fun b593 => ?_)
                        show Go X (El X) 594 [some (.inr (.inr (60, 0))), some (.inr (.inr (0, 0))), some (.inr (.inr (30, 0))), some (.inl s.1)] [.inl (xsc (ix (s.1 + (2 : Int32)))), .inl (xsc (ix (s.1 + (1 : Int32)))), .inr (.inr (30, 0)), .inl r580] m580 _
                        refine go_blk h.1 (is := [.aload_n 0, .iload_n 3, .iconst 3, .iadd]) (pc' := 598) (ls' := [some (.inr (.inr (60, 0))), some (.inr (.inr (0, 0))), some (.inr (.inr (30, 0))), some (.inl s.1)]) (st' := [.inl (s.1 + (3 : Int32)), .inr (.inr (60, 0)), .inl (xsc (ix (s.1 + (2 : Int32)))), .inl (xsc (ix (s.1 + (1 : Int32)))), .inr (.inr (30, 0)), .inl r580]) (m' := m580) (by decide +kernel) rfl ?_
                        refine go_sld h (by decide +kernel) (fun b598 => ?_)
                        show Go X (El X) 599 [some (.inr (.inr (60, 0))), some (.inr (.inr (0, 0))), some (.inr (.inr (30, 0))), some (.inl s.1)] [.inl (xsc (ix (s.1 + (3 : Int32)))), .inl (xsc (ix (s.1 + (2 : Int32)))), .inl (xsc (ix (s.1 + (1 : Int32)))), .inr (.inr (30, 0)), .inl r580] m580 _
                        refine go_blk h.1 (is := [.aload_n 0, .iload_n 3, .iconst 4, .iadd]) (pc' := 603) (ls' := [some (.inr (.inr (60, 0))), some (.inr (.inr (0, 0))), some (.inr (.inr (30, 0))), some (.inl s.1)]) (st' := [.inl (s.1 + (4 : Int32)), .inr (.inr (60, 0)), .inl (xsc (ix (s.1 + (3 : Int32)))), .inl (xsc (ix (s.1 + (2 : Int32)))), .inl (xsc (ix (s.1 + (1 : Int32)))), .inr (.inr (30, 0)), .inl r580]) (m' := m580) (by decide +kernel) rfl ?_
                        refine go_sld h (by decide +kernel) (fun b603 => ?_)
                        show Go X (El X) 604 [some (.inr (.inr (60, 0))), some (.inr (.inr (0, 0))), some (.inr (.inr (30, 0))), some (.inl s.1)] [.inl (xsc (ix (s.1 + (4 : Int32)))), .inl (xsc (ix (s.1 + (3 : Int32)))), .inl (xsc (ix (s.1 + (2 : Int32)))), .inl (xsc (ix (s.1 + (1 : Int32)))), .inr (.inr (30, 0)), .inl r580] m580 _
                        refine go_callV h.1 (index := 57) (n := 4) (t := 30) (i := 0) (ci := 7) (nf := 35) (cz := (RX7, TX7, 35)) (as := [.inl (xsc (ix (s.1 + (1 : Int32)))), .inl (xsc (ix (s.1 + (2 : Int32)))), .inl (xsc (ix (s.1 + (3 : Int32)))), .inl (xsc (ix (s.1 + (4 : Int32))))]) (rest := [.inl r580]) (ctr_X7_payments (xl X) (xA X) (xC X) (xI X) (xk X) (xsc (ix (s.1 + (1 : Int32)))) (xsc (ix (s.1 + (2 : Int32)))) (xsc (ix (s.1 + (3 : Int32)))) (xsc (ix (s.1 + (4 : Int32)))) m580) (by decide +kernel) rfl rfl wd_v_L_57 rfl (h.room (by first | decide | omega) (by decide)) h.cl (Nat.le_of_ble_eq_true rfl) puI_ok rfl (fun r604 m604 _ => ?_)
                        show Go X (El X) 607 [some (.inr (.inr (60, 0))), some (.inr (.inr (0, 0))), some (.inr (.inr (30, 0))), some (.inl s.1)] [.inl r604, .inl r580] m604 _
                        refine go_icmpeq h.1 (off := 711) 1318 (by decide +kernel) (by decide) (fun c607 => ?_) (fun c607 => ?_)
                        · exact g_L_law_j1318 L xsc h next exit s.1 m604 hn hx
                        · refine go_blk h.1 (is := [.iconst 0]) (pc' := 611) (ls' := [some (.inr (.inr (60, 0))), some (.inr (.inr (0, 0))), some (.inr (.inr (30, 0))), some (.inl s.1)]) (st' := [.inl (0 : Int32)]) (m' := m604) (by decide +kernel) rfl ?_
                          exact go_law0
                      · refine go_ite (fun w33_10 => ?_) (fun w33_10 => ?_)
                        · refine go_tsIn h.1 (dflt := 1285) (lo := 0) (hi := 27) (offs := #[127, 180, 213, 236, 269, 292, 355, 430, 493, 526, 579, 642, 675, 698, 761, 814, 877, 941, 984, 1007, 1050, 1094, 1157, 1180, 1203, 1236, 1249, 1262]) (len := 127) (off := 579) (10 : Int32) 612 w33_10 (by decide +kernel) (by decide) rfl (by decide) ?_
                          refine go_blk h.1 (is := [.aload_n 1, .aload_n 0, .iload_n 3, .iconst 1, .iadd]) (pc' := 617) (ls' := [some (.inr (.inr (60, 0))), some (.inr (.inr (0, 0))), some (.inr (.inr (30, 0))), some (.inl s.1)]) (st' := [.inl (s.1 + (1 : Int32)), .inr (.inr (60, 0)), .inr (.inr (0, 0))]) (m' := s.2) (by decide +kernel) rfl ?_
                          refine go_sld h (by decide +kernel) (fun b617 => ?_)
                          show Go X (El X) 618 [some (.inr (.inr (60, 0))), some (.inr (.inr (0, 0))), some (.inr (.inr (30, 0))), some (.inl s.1)] [.inl (xsc (ix (s.1 + (1 : Int32)))), .inr (.inr (0, 0))] s.2 _
                          refine go_blk h.1 (is := [.aload_n 0, .iload_n 3, .iconst 2, .iadd]) (pc' := 622) (ls' := [some (.inr (.inr (60, 0))), some (.inr (.inr (0, 0))), some (.inr (.inr (30, 0))), some (.inl s.1)]) (st' := [.inl (s.1 + (2 : Int32)), .inr (.inr (60, 0)), .inl (xsc (ix (s.1 + (1 : Int32)))), .inr (.inr (0, 0))]) (m' := s.2) (by decide +kernel) rfl ?_
                          refine go_sld h (by decide +kernel) (fun b622 => ?_)
                          show Go X (El X) 623 [some (.inr (.inr (60, 0))), some (.inr (.inr (0, 0))), some (.inr (.inr (30, 0))), some (.inl s.1)] [.inl (xsc (ix (s.1 + (2 : Int32)))), .inl (xsc (ix (s.1 + (1 : Int32)))), .inr (.inr (0, 0))] s.2 _
                          refine go_blk h.1 (is := [.aload_n 0, .iload_n 3, .iconst 3, .iadd]) (pc' := 627) (ls' := [some (.inr (.inr (60, 0))), some (.inr (.inr (0, 0))), some (.inr (.inr (30, 0))), some (.inl s.1)]) (st' := [.inl (s.1 + (3 : Int32)), .inr (.inr (60, 0)), .inl (xsc (ix (s.1 + (2 : Int32)))), .inl (xsc (ix (s.1 + (1 : Int32)))), .inr (.inr (0, 0))]) (m' := s.2) (by decide +kernel) rfl ?_
                          refine go_sld h (by decide +kernel) (fun b627 => ?_)
                          show Go X (El X) 628 [some (.inr (.inr (60, 0))), some (.inr (.inr (0, 0))), some (.inr (.inr (30, 0))), some (.inl s.1)] [.inl (xsc (ix (s.1 + (3 : Int32)))), .inl (xsc (ix (s.1 + (2 : Int32)))), .inl (xsc (ix (s.1 + (1 : Int32)))), .inr (.inr (0, 0))] s.2 _
                          refine go_blk h.1 (is := [.aload_n 0, .iload_n 3, .iconst 4, .iadd]) (pc' := 632) (ls' := [some (.inr (.inr (60, 0))), some (.inr (.inr (0, 0))), some (.inr (.inr (30, 0))), some (.inl s.1)]) (st' := [.inl (s.1 + (4 : Int32)), .inr (.inr (60, 0)), .inl (xsc (ix (s.1 + (3 : Int32)))), .inl (xsc (ix (s.1 + (2 : Int32)))), .inl (xsc (ix (s.1 + (1 : Int32)))), .inr (.inr (0, 0))]) (m' := s.2) (by decide +kernel) rfl ?_
                          refine go_sld h (by decide +kernel) (fun b632 => ?_)
                          show Go X (El X) 633 [some (.inr (.inr (60, 0))), some (.inr (.inr (0, 0))), some (.inr (.inr (30, 0))), some (.inl s.1)] [.inl (xsc (ix (s.1 + (4 : Int32)))), .inl (xsc (ix (s.1 + (3 : Int32)))), .inl (xsc (ix (s.1 + (2 : Int32)))), .inl (xsc (ix (s.1 + (1 : Int32)))), .inr (.inr (0, 0))] s.2 _
                          refine go_blk h.1 (is := [.aload_n 0, .iload_n 3, .iconst 5, .iadd]) (pc' := 637) (ls' := [some (.inr (.inr (60, 0))), some (.inr (.inr (0, 0))), some (.inr (.inr (30, 0))), some (.inl s.1)]) (st' := [.inl (s.1 + (5 : Int32)), .inr (.inr (60, 0)), .inl (xsc (ix (s.1 + (4 : Int32)))), .inl (xsc (ix (s.1 + (3 : Int32)))), .inl (xsc (ix (s.1 + (2 : Int32)))), .inl (xsc (ix (s.1 + (1 : Int32)))), .inr (.inr (0, 0))]) (m' := s.2) (by decide +kernel) rfl ?_
                          refine go_sld h (by decide +kernel) (fun b637 => ?_)
                          show Go X (El X) 638 [some (.inr (.inr (60, 0))), some (.inr (.inr (0, 0))), some (.inr (.inr (30, 0))), some (.inl s.1)] [.inl (xsc (ix (s.1 + (5 : Int32)))), .inl (xsc (ix (s.1 + (4 : Int32)))), .inl (xsc (ix (s.1 + (3 : Int32)))), .inl (xsc (ix (s.1 + (2 : Int32)))), .inl (xsc (ix (s.1 + (1 : Int32)))), .inr (.inr (0, 0))] s.2 _
                          refine go_callV h.1 (index := 58) (n := 5) (t := 0) (i := 0) (ci := 6) (nf := 7) (cz := (RX6, TX6, 7)) (as := [.inl (xsc (ix (s.1 + (1 : Int32)))), .inl (xsc (ix (s.1 + (2 : Int32)))), .inl (xsc (ix (s.1 + (3 : Int32)))), .inl (xsc (ix (s.1 + (4 : Int32)))), .inl (xsc (ix (s.1 + (5 : Int32))))]) (rest := []) (ctr_X6_wants (xl X) (xA X) (xC X) (xI X) (xk X) (xsc (ix (s.1 + (1 : Int32)))) (xsc (ix (s.1 + (2 : Int32)))) (xsc (ix (s.1 + (3 : Int32)))) (xsc (ix (s.1 + (4 : Int32)))) (xsc (ix (s.1 + (5 : Int32)))) s.2) (by decide +kernel) rfl rfl wd_v_L_58 rfl (h.room (by first | decide | omega) (by decide)) h.cl (Nat.le_of_ble_eq_true rfl) puI_ok rfl (fun r638 m638 _ => ?_)
                          show Go X (El X) 641 [some (.inr (.inr (60, 0))), some (.inr (.inr (0, 0))), some (.inr (.inr (30, 0))), some (.inl s.1)] [.inl r638] m638 _
                          refine go_blk h.1 (is := [.aload_n 2, .aload_n 0, .iload_n 3, .iconst 1, .iadd]) (pc' := 646) (ls' := [some (.inr (.inr (60, 0))), some (.inr (.inr (0, 0))), some (.inr (.inr (30, 0))), some (.inl s.1)]) (st' := [.inl (s.1 + (1 : Int32)), .inr (.inr (60, 0)), .inr (.inr (30, 0)), .inl r638]) (m' := m638) (by decide +kernel) rfl ?_
                          refine go_sld h (by decide +kernel) (fun b646 => ?_)
                          show Go X (El X) 647 [some (.inr (.inr (60, 0))), some (.inr (.inr (0, 0))), some (.inr (.inr (30, 0))), some (.inl s.1)] [.inl (xsc (ix (s.1 + (1 : Int32)))), .inr (.inr (30, 0)), .inl r638] m638 _
                          refine go_blk h.1 (is := [.aload_n 0, .iload_n 3, .iconst 2, .iadd]) (pc' := 651) (ls' := [some (.inr (.inr (60, 0))), some (.inr (.inr (0, 0))), some (.inr (.inr (30, 0))), some (.inl s.1)]) (st' := [.inl (s.1 + (2 : Int32)), .inr (.inr (60, 0)), .inl (xsc (ix (s.1 + (1 : Int32)))), .inr (.inr (30, 0)), .inl r638]) (m' := m638) (by decide +kernel) rfl ?_
                          refine go_sld h (by decide +kernel) (fun b651 => ?_)
                          show Go X (El X) 652 [some (.inr (.inr (60, 0))), some (.inr (.inr (0, 0))), some (.inr (.inr (30, 0))), some (.inl s.1)] [.inl (xsc (ix (s.1 + (2 : Int32)))), .inl (xsc (ix (s.1 + (1 : Int32)))), .inr (.inr (30, 0)), .inl r638] m638 _
                          refine go_blk h.1 (is := [.aload_n 0, .iload_n 3, .iconst 3, .iadd]) (pc' := 656) (ls' := [some (.inr (.inr (60, 0))), some (.inr (.inr (0, 0))), some (.inr (.inr (30, 0))), some (.inl s.1)]) (st' := [.inl (s.1 + (3 : Int32)), .inr (.inr (60, 0)), .inl (xsc (ix (s.1 + (2 : Int32)))), .inl (xsc (ix (s.1 + (1 : Int32)))), .inr (.inr (30, 0)), .inl r638]) (m' := m638) (by decide +kernel) rfl ?_
                          refine go_sld h (by decide +kernel) (fun b656 => ?_)
                          show Go X (El X) 657 [some (.inr (.inr (60, 0))), some (.inr (.inr (0, 0))), some (.inr (.inr (30, 0))), some (.inl s.1)] [.inl (xsc (ix (s.1 + (3 : Int32)))), .inl (xsc (ix (s.1 + (2 : Int32)))), .inl (xsc (ix (s.1 + (1 : Int32)))), .inr (.inr (30, 0)), .inl r638] m638 _
                          refine go_blk h.1 (is := [.aload_n 0, .iload_n 3, .iconst 4, .iadd]) (pc' := 661) (ls' := [some (.inr (.inr (60, 0))), some (.inr (.inr (0, 0))), some (.inr (.inr (30, 0))), some (.inl s.1)]) (st' := [.inl (s.1 + (4 : Int32)), .inr (.inr (60, 0)), .inl (xsc (ix (s.1 + (3 : Int32)))), .inl (xsc (ix (s.1 + (2 : Int32)))), .inl (xsc (ix (s.1 + (1 : Int32)))), .inr (.inr (30, 0)), .inl r638]) (m' := m638) (by decide +kernel) rfl ?_
                          refine go_sld h (by decide +kernel) (fun b661 => ?_)
                          show Go X (El X) 662 [some (.inr (.inr (60, 0))), some (.inr (.inr (0, 0))), some (.inr (.inr (30, 0))), some (.inl s.1)] [.inl (xsc (ix (s.1 + (4 : Int32)))), .inl (xsc (ix (s.1 + (3 : Int32)))), .inl (xsc (ix (s.1 + (2 : Int32)))), .inl (xsc (ix (s.1 + (1 : Int32)))), .inr (.inr (30, 0)), .inl r638] m638 _
                          refine go_blk h.1 (is := [.aload_n 0, .iload_n 3, .iconst 5, .iadd]) (pc' := 666) (ls' := [some (.inr (.inr (60, 0))), some (.inr (.inr (0, 0))), some (.inr (.inr (30, 0))), some (.inl s.1)]) (st' := [.inl (s.1 + (5 : Int32)), .inr (.inr (60, 0)), .inl (xsc (ix (s.1 + (4 : Int32)))), .inl (xsc (ix (s.1 + (3 : Int32)))), .inl (xsc (ix (s.1 + (2 : Int32)))), .inl (xsc (ix (s.1 + (1 : Int32)))), .inr (.inr (30, 0)), .inl r638]) (m' := m638) (by decide +kernel) rfl ?_
                          refine go_sld h (by decide +kernel) (fun b666 => ?_)
                          show Go X (El X) 667 [some (.inr (.inr (60, 0))), some (.inr (.inr (0, 0))), some (.inr (.inr (30, 0))), some (.inl s.1)] [.inl (xsc (ix (s.1 + (5 : Int32)))), .inl (xsc (ix (s.1 + (4 : Int32)))), .inl (xsc (ix (s.1 + (3 : Int32)))), .inl (xsc (ix (s.1 + (2 : Int32)))), .inl (xsc (ix (s.1 + (1 : Int32)))), .inr (.inr (30, 0)), .inl r638] m638 _
                          refine go_callV h.1 (index := 61) (n := 5) (t := 30) (i := 0) (ci := 7) (nf := 35) (cz := (RX7, TX7, 35)) (as := [.inl (xsc (ix (s.1 + (1 : Int32)))), .inl (xsc (ix (s.1 + (2 : Int32)))), .inl (xsc (ix (s.1 + (3 : Int32)))), .inl (xsc (ix (s.1 + (4 : Int32)))), .inl (xsc (ix (s.1 + (5 : Int32))))]) (rest := [.inl r638]) (ctr_X7_wants (xl X) (xA X) (xC X) (xI X) (xk X) (xsc (ix (s.1 + (1 : Int32)))) (xsc (ix (s.1 + (2 : Int32)))) (xsc (ix (s.1 + (3 : Int32)))) (xsc (ix (s.1 + (4 : Int32)))) (xsc (ix (s.1 + (5 : Int32)))) m638) (by decide +kernel) rfl rfl wd_v_L_61 rfl (h.room (by first | decide | omega) (by decide)) h.cl (Nat.le_of_ble_eq_true rfl) puI_ok rfl (fun r667 m667 _ => ?_)
                          show Go X (El X) 670 [some (.inr (.inr (60, 0))), some (.inr (.inr (0, 0))), some (.inr (.inr (30, 0))), some (.inl s.1)] [.inl r667, .inl r638] m667 _
                          refine go_icmpeq h.1 (off := 648) 1318 (by decide +kernel) (by decide) (fun c670 => ?_) (fun c670 => ?_)
                          · exact g_L_law_j1318 L xsc h next exit s.1 m667 hn hx
                          · refine go_blk h.1 (is := [.iconst 0]) (pc' := 674) (ls' := [some (.inr (.inr (60, 0))), some (.inr (.inr (0, 0))), some (.inr (.inr (30, 0))), some (.inl s.1)]) (st' := [.inl (0 : Int32)]) (m' := m667) (by decide +kernel) rfl ?_
                            exact go_law0
                        · refine go_ite (fun w33_11 => ?_) (fun w33_11 => ?_)
                          · refine go_tsIn h.1 (dflt := 1285) (lo := 0) (hi := 27) (offs := #[127, 180, 213, 236, 269, 292, 355, 430, 493, 526, 579, 642, 675, 698, 761, 814, 877, 941, 984, 1007, 1050, 1094, 1157, 1180, 1203, 1236, 1249, 1262]) (len := 127) (off := 642) (11 : Int32) 675 w33_11 (by decide +kernel) (by decide) rfl (by decide) ?_
                            refine go_blk h.1 (is := [.aload_n 1, .aload_n 0, .iload_n 3, .iconst 1, .iadd]) (pc' := 680) (ls' := [some (.inr (.inr (60, 0))), some (.inr (.inr (0, 0))), some (.inr (.inr (30, 0))), some (.inl s.1)]) (st' := [.inl (s.1 + (1 : Int32)), .inr (.inr (60, 0)), .inr (.inr (0, 0))]) (m' := s.2) (by decide +kernel) rfl ?_
                            refine go_sld h (by decide +kernel) (fun b680 => ?_)
                            show Go X (El X) 681 [some (.inr (.inr (60, 0))), some (.inr (.inr (0, 0))), some (.inr (.inr (30, 0))), some (.inl s.1)] [.inl (xsc (ix (s.1 + (1 : Int32)))), .inr (.inr (0, 0))] s.2 _
                            refine go_blk h.1 (is := [.aload_n 0, .iload_n 3, .iconst 2, .iadd]) (pc' := 685) (ls' := [some (.inr (.inr (60, 0))), some (.inr (.inr (0, 0))), some (.inr (.inr (30, 0))), some (.inl s.1)]) (st' := [.inl (s.1 + (2 : Int32)), .inr (.inr (60, 0)), .inl (xsc (ix (s.1 + (1 : Int32)))), .inr (.inr (0, 0))]) (m' := s.2) (by decide +kernel) rfl ?_
                            refine go_sld h (by decide +kernel) (fun b685 => ?_)
                            show Go X (El X) 686 [some (.inr (.inr (60, 0))), some (.inr (.inr (0, 0))), some (.inr (.inr (30, 0))), some (.inl s.1)] [.inl (xsc (ix (s.1 + (2 : Int32)))), .inl (xsc (ix (s.1 + (1 : Int32)))), .inr (.inr (0, 0))] s.2 _
                            refine go_callV h.1 (index := 62) (n := 2) (t := 0) (i := 0) (ci := 6) (nf := 7) (cz := (RX6, TX6, 7)) (as := [.inl (xsc (ix (s.1 + (1 : Int32)))), .inl (xsc (ix (s.1 + (2 : Int32))))]) (rest := []) (ctr_X6_reading (xl X) (xA X) (xC X) (xI X) (xk X) (xsc (ix (s.1 + (1 : Int32)))) (xsc (ix (s.1 + (2 : Int32)))) s.2) (by decide +kernel) rfl rfl wd_v_L_62 rfl (h.room (by first | decide | omega) (by decide)) h.cl (Nat.le_of_ble_eq_true rfl) puI_ok rfl (fun r686 m686 _ => ?_)
                            show Go X (El X) 689 [some (.inr (.inr (60, 0))), some (.inr (.inr (0, 0))), some (.inr (.inr (30, 0))), some (.inl s.1)] [.inl r686] m686 _
                            refine go_blk h.1 (is := [.aload_n 2, .aload_n 0, .iload_n 3, .iconst 1, .iadd]) (pc' := 694) (ls' := [some (.inr (.inr (60, 0))), some (.inr (.inr (0, 0))), some (.inr (.inr (30, 0))), some (.inl s.1)]) (st' := [.inl (s.1 + (1 : Int32)), .inr (.inr (60, 0)), .inr (.inr (30, 0)), .inl r686]) (m' := m686) (by decide +kernel) rfl ?_
                            refine go_sld h (by decide +kernel) (fun b694 => ?_)
                            show Go X (El X) 695 [some (.inr (.inr (60, 0))), some (.inr (.inr (0, 0))), some (.inr (.inr (30, 0))), some (.inl s.1)] [.inl (xsc (ix (s.1 + (1 : Int32)))), .inr (.inr (30, 0)), .inl r686] m686 _
                            refine go_blk h.1 (is := [.aload_n 0, .iload_n 3, .iconst 2, .iadd]) (pc' := 699) (ls' := [some (.inr (.inr (60, 0))), some (.inr (.inr (0, 0))), some (.inr (.inr (30, 0))), some (.inl s.1)]) (st' := [.inl (s.1 + (2 : Int32)), .inr (.inr (60, 0)), .inl (xsc (ix (s.1 + (1 : Int32)))), .inr (.inr (30, 0)), .inl r686]) (m' := m686) (by decide +kernel) rfl ?_
                            refine go_sld h (by decide +kernel) (fun b699 => ?_)
                            show Go X (El X) 700 [some (.inr (.inr (60, 0))), some (.inr (.inr (0, 0))), some (.inr (.inr (30, 0))), some (.inl s.1)] [.inl (xsc (ix (s.1 + (2 : Int32)))), .inl (xsc (ix (s.1 + (1 : Int32)))), .inr (.inr (30, 0)), .inl r686] m686 _
                            refine go_callV h.1 (index := 65) (n := 2) (t := 30) (i := 0) (ci := 7) (nf := 35) (cz := (RX7, TX7, 35)) (as := [.inl (xsc (ix (s.1 + (1 : Int32)))), .inl (xsc (ix (s.1 + (2 : Int32))))]) (rest := [.inl r686]) (ctr_X7_reading (xl X) (xA X) (xC X) (xI X) (xk X) (xsc (ix (s.1 + (1 : Int32)))) (xsc (ix (s.1 + (2 : Int32)))) m686) (by decide +kernel) rfl rfl wd_v_L_65 rfl (h.room (by first | decide | omega) (by decide)) h.cl (Nat.le_of_ble_eq_true rfl) puI_ok rfl (fun r700 m700 _ => ?_)
                            show Go X (El X) 703 [some (.inr (.inr (60, 0))), some (.inr (.inr (0, 0))), some (.inr (.inr (30, 0))), some (.inl s.1)] [.inl r700, .inl r686] m700 _
                            refine go_icmpeq h.1 (off := 615) 1318 (by decide +kernel) (by decide) (fun c703 => ?_) (fun c703 => ?_)
                            · exact g_L_law_j1318 L xsc h next exit s.1 m700 hn hx
                            · refine go_blk h.1 (is := [.iconst 0]) (pc' := 707) (ls' := [some (.inr (.inr (60, 0))), some (.inr (.inr (0, 0))), some (.inr (.inr (30, 0))), some (.inl s.1)]) (st' := [.inl (0 : Int32)]) (m' := m700) (by decide +kernel) rfl ?_
                              exact go_law0
                          · refine go_ite (fun w33_12 => ?_) (fun w33_12 => ?_)
                            · refine go_tsIn h.1 (dflt := 1285) (lo := 0) (hi := 27) (offs := #[127, 180, 213, 236, 269, 292, 355, 430, 493, 526, 579, 642, 675, 698, 761, 814, 877, 941, 984, 1007, 1050, 1094, 1157, 1180, 1203, 1236, 1249, 1262]) (len := 127) (off := 675) (12 : Int32) 708 w33_12 (by decide +kernel) (by decide) rfl (by decide) ?_
                              refine go_blk h.1 (is := [.aload_n 1, .aload_n 0, .iload_n 3, .iconst 1, .iadd]) (pc' := 713) (ls' := [some (.inr (.inr (60, 0))), some (.inr (.inr (0, 0))), some (.inr (.inr (30, 0))), some (.inl s.1)]) (st' := [.inl (s.1 + (1 : Int32)), .inr (.inr (60, 0)), .inr (.inr (0, 0))]) (m' := s.2) (by decide +kernel) rfl ?_
                              refine go_sld h (by decide +kernel) (fun b713 => ?_)
                              show Go X (El X) 714 [some (.inr (.inr (60, 0))), some (.inr (.inr (0, 0))), some (.inr (.inr (30, 0))), some (.inl s.1)] [.inl (xsc (ix (s.1 + (1 : Int32)))), .inr (.inr (0, 0))] s.2 _
                              refine go_callV h.1 (index := 66) (n := 1) (t := 0) (i := 0) (ci := 6) (nf := 7) (cz := (RX6, TX6, 7)) (as := [.inl (xsc (ix (s.1 + (1 : Int32))))]) (rest := []) (ctr_X6_back (xl X) (xA X) (xC X) (xI X) (xk X) (xsc (ix (s.1 + (1 : Int32)))) s.2) (by decide +kernel) rfl rfl wd_v_L_66 rfl (h.room (by first | decide | omega) (by decide)) h.cl (Nat.le_of_ble_eq_true rfl) puI_ok rfl (fun r714 m714 _ => ?_)
                              show Go X (El X) 717 [some (.inr (.inr (60, 0))), some (.inr (.inr (0, 0))), some (.inr (.inr (30, 0))), some (.inl s.1)] [.inl r714] m714 _
                              refine go_blk h.1 (is := [.aload_n 2, .aload_n 0, .iload_n 3, .iconst 1, .iadd]) (pc' := 722) (ls' := [some (.inr (.inr (60, 0))), some (.inr (.inr (0, 0))), some (.inr (.inr (30, 0))), some (.inl s.1)]) (st' := [.inl (s.1 + (1 : Int32)), .inr (.inr (60, 0)), .inr (.inr (30, 0)), .inl r714]) (m' := m714) (by decide +kernel) rfl ?_
                              refine go_sld h (by decide +kernel) (fun b722 => ?_)
                              show Go X (El X) 723 [some (.inr (.inr (60, 0))), some (.inr (.inr (0, 0))), some (.inr (.inr (30, 0))), some (.inl s.1)] [.inl (xsc (ix (s.1 + (1 : Int32)))), .inr (.inr (30, 0)), .inl r714] m714 _
                              refine go_callV h.1 (index := 69) (n := 1) (t := 30) (i := 0) (ci := 7) (nf := 35) (cz := (RX7, TX7, 35)) (as := [.inl (xsc (ix (s.1 + (1 : Int32))))]) (rest := [.inl r714]) (ctr_X7_back (xl X) (xA X) (xC X) (xI X) (xk X) (xsc (ix (s.1 + (1 : Int32)))) m714) (by decide +kernel) rfl rfl wd_v_L_69 rfl (h.room (by first | decide | omega) (by decide)) h.cl (Nat.le_of_ble_eq_true rfl) puI_ok rfl (fun r723 m723 _ => ?_)
                              show Go X (El X) 726 [some (.inr (.inr (60, 0))), some (.inr (.inr (0, 0))), some (.inr (.inr (30, 0))), some (.inl s.1)] [.inl r723, .inl r714] m723 _
                              refine go_icmpeq h.1 (off := 592) 1318 (by decide +kernel) (by decide) (fun c726 => ?_) (fun c726 => ?_)
                              · exact g_L_law_j1318 L xsc h next exit s.1 m723 hn hx
                              · refine go_blk h.1 (is := [.iconst 0]) (pc' := 730) (ls' := [some (.inr (.inr (60, 0))), some (.inr (.inr (0, 0))), some (.inr (.inr (30, 0))), some (.inl s.1)]) (st' := [.inl (0 : Int32)]) (m' := m723) (by decide +kernel) rfl ?_
                                exact go_law0
                            · refine go_ite (fun w33_13 => ?_) (fun w33_13 => ?_)
                              · refine go_tsIn h.1 (dflt := 1285) (lo := 0) (hi := 27) (offs := #[127, 180, 213, 236, 269, 292, 355, 430, 493, 526, 579, 642, 675, 698, 761, 814, 877, 941, 984, 1007, 1050, 1094, 1157, 1180, 1203, 1236, 1249, 1262]) (len := 127) (off := 698) (13 : Int32) 731 w33_13 (by decide +kernel) (by decide) rfl (by decide) ?_
                                refine go_blk h.1 (is := [.aload_n 1, .aload_n 0, .iload_n 3, .iconst 1, .iadd]) (pc' := 736) (ls' := [some (.inr (.inr (60, 0))), some (.inr (.inr (0, 0))), some (.inr (.inr (30, 0))), some (.inl s.1)]) (st' := [.inl (s.1 + (1 : Int32)), .inr (.inr (60, 0)), .inr (.inr (0, 0))]) (m' := s.2) (by decide +kernel) rfl ?_
                                refine go_sld h (by decide +kernel) (fun b736 => ?_)
                                show Go X (El X) 737 [some (.inr (.inr (60, 0))), some (.inr (.inr (0, 0))), some (.inr (.inr (30, 0))), some (.inl s.1)] [.inl (xsc (ix (s.1 + (1 : Int32)))), .inr (.inr (0, 0))] s.2 _
                                refine go_blk h.1 (is := [.aload_n 0, .iload_n 3, .iconst 2, .iadd]) (pc' := 741) (ls' := [some (.inr (.inr (60, 0))), some (.inr (.inr (0, 0))), some (.inr (.inr (30, 0))), some (.inl s.1)]) (st' := [.inl (s.1 + (2 : Int32)), .inr (.inr (60, 0)), .inl (xsc (ix (s.1 + (1 : Int32)))), .inr (.inr (0, 0))]) (m' := s.2) (by decide +kernel) rfl ?_
                                refine go_sld h (by decide +kernel) (fun b741 => ?_)
                                show Go X (El X) 742 [some (.inr (.inr (60, 0))), some (.inr (.inr (0, 0))), some (.inr (.inr (30, 0))), some (.inl s.1)] [.inl (xsc (ix (s.1 + (2 : Int32)))), .inl (xsc (ix (s.1 + (1 : Int32)))), .inr (.inr (0, 0))] s.2 _
                                refine go_blk h.1 (is := [.aload_n 0, .iload_n 3, .iconst 3, .iadd]) (pc' := 746) (ls' := [some (.inr (.inr (60, 0))), some (.inr (.inr (0, 0))), some (.inr (.inr (30, 0))), some (.inl s.1)]) (st' := [.inl (s.1 + (3 : Int32)), .inr (.inr (60, 0)), .inl (xsc (ix (s.1 + (2 : Int32)))), .inl (xsc (ix (s.1 + (1 : Int32)))), .inr (.inr (0, 0))]) (m' := s.2) (by decide +kernel) rfl ?_
                                refine go_sld h (by decide +kernel) (fun b746 => ?_)
                                show Go X (El X) 747 [some (.inr (.inr (60, 0))), some (.inr (.inr (0, 0))), some (.inr (.inr (30, 0))), some (.inl s.1)] [.inl (xsc (ix (s.1 + (3 : Int32)))), .inl (xsc (ix (s.1 + (2 : Int32)))), .inl (xsc (ix (s.1 + (1 : Int32)))), .inr (.inr (0, 0))] s.2 _
                                refine go_blk h.1 (is := [.aload_n 0, .iload_n 3, .iconst 4, .iadd]) (pc' := 751) (ls' := [some (.inr (.inr (60, 0))), some (.inr (.inr (0, 0))), some (.inr (.inr (30, 0))), some (.inl s.1)]) (st' := [.inl (s.1 + (4 : Int32)), .inr (.inr (60, 0)), .inl (xsc (ix (s.1 + (3 : Int32)))), .inl (xsc (ix (s.1 + (2 : Int32)))), .inl (xsc (ix (s.1 + (1 : Int32)))), .inr (.inr (0, 0))]) (m' := s.2) (by decide +kernel) rfl ?_
                                refine go_sld h (by decide +kernel) (fun b751 => ?_)
                                show Go X (El X) 752 [some (.inr (.inr (60, 0))), some (.inr (.inr (0, 0))), some (.inr (.inr (30, 0))), some (.inl s.1)] [.inl (xsc (ix (s.1 + (4 : Int32)))), .inl (xsc (ix (s.1 + (3 : Int32)))), .inl (xsc (ix (s.1 + (2 : Int32)))), .inl (xsc (ix (s.1 + (1 : Int32)))), .inr (.inr (0, 0))] s.2 _
                                refine go_blk h.1 (is := [.aload_n 0, .iload_n 3, .iconst 5, .iadd]) (pc' := 756) (ls' := [some (.inr (.inr (60, 0))), some (.inr (.inr (0, 0))), some (.inr (.inr (30, 0))), some (.inl s.1)]) (st' := [.inl (s.1 + (5 : Int32)), .inr (.inr (60, 0)), .inl (xsc (ix (s.1 + (4 : Int32)))), .inl (xsc (ix (s.1 + (3 : Int32)))), .inl (xsc (ix (s.1 + (2 : Int32)))), .inl (xsc (ix (s.1 + (1 : Int32)))), .inr (.inr (0, 0))]) (m' := s.2) (by decide +kernel) rfl ?_
                                refine go_sld h (by decide +kernel) (fun b756 => ?_)
                                show Go X (El X) 757 [some (.inr (.inr (60, 0))), some (.inr (.inr (0, 0))), some (.inr (.inr (30, 0))), some (.inl s.1)] [.inl (xsc (ix (s.1 + (5 : Int32)))), .inl (xsc (ix (s.1 + (4 : Int32)))), .inl (xsc (ix (s.1 + (3 : Int32)))), .inl (xsc (ix (s.1 + (2 : Int32)))), .inl (xsc (ix (s.1 + (1 : Int32)))), .inr (.inr (0, 0))] s.2 _
                                refine go_callV h.1 (index := 70) (n := 5) (t := 0) (i := 0) (ci := 6) (nf := 7) (cz := (RX6, TX6, 7)) (as := [.inl (xsc (ix (s.1 + (1 : Int32)))), .inl (xsc (ix (s.1 + (2 : Int32)))), .inl (xsc (ix (s.1 + (3 : Int32)))), .inl (xsc (ix (s.1 + (4 : Int32)))), .inl (xsc (ix (s.1 + (5 : Int32))))]) (rest := []) (ctr_X6_had (xl X) (xA X) (xC X) (xI X) (xk X) (xsc (ix (s.1 + (1 : Int32)))) (xsc (ix (s.1 + (2 : Int32)))) (xsc (ix (s.1 + (3 : Int32)))) (xsc (ix (s.1 + (4 : Int32)))) (xsc (ix (s.1 + (5 : Int32)))) s.2) (by decide +kernel) rfl rfl wd_v_L_70 rfl (h.room (by first | decide | omega) (by decide)) h.cl (Nat.le_of_ble_eq_true rfl) puI_ok rfl (fun r757 m757 _ => ?_)
                                show Go X (El X) 760 [some (.inr (.inr (60, 0))), some (.inr (.inr (0, 0))), some (.inr (.inr (30, 0))), some (.inl s.1)] [.inl r757] m757 _
                                refine go_blk h.1 (is := [.aload_n 2, .aload_n 0, .iload_n 3, .iconst 1, .iadd]) (pc' := 765) (ls' := [some (.inr (.inr (60, 0))), some (.inr (.inr (0, 0))), some (.inr (.inr (30, 0))), some (.inl s.1)]) (st' := [.inl (s.1 + (1 : Int32)), .inr (.inr (60, 0)), .inr (.inr (30, 0)), .inl r757]) (m' := m757) (by decide +kernel) rfl ?_
                                refine go_sld h (by decide +kernel) (fun b765 => ?_)
                                show Go X (El X) 766 [some (.inr (.inr (60, 0))), some (.inr (.inr (0, 0))), some (.inr (.inr (30, 0))), some (.inl s.1)] [.inl (xsc (ix (s.1 + (1 : Int32)))), .inr (.inr (30, 0)), .inl r757] m757 _
                                refine go_blk h.1 (is := [.aload_n 0, .iload_n 3, .iconst 2, .iadd]) (pc' := 770) (ls' := [some (.inr (.inr (60, 0))), some (.inr (.inr (0, 0))), some (.inr (.inr (30, 0))), some (.inl s.1)]) (st' := [.inl (s.1 + (2 : Int32)), .inr (.inr (60, 0)), .inl (xsc (ix (s.1 + (1 : Int32)))), .inr (.inr (30, 0)), .inl r757]) (m' := m757) (by decide +kernel) rfl ?_
                                refine go_sld h (by decide +kernel) (fun b770 => ?_)
                                show Go X (El X) 771 [some (.inr (.inr (60, 0))), some (.inr (.inr (0, 0))), some (.inr (.inr (30, 0))), some (.inl s.1)] [.inl (xsc (ix (s.1 + (2 : Int32)))), .inl (xsc (ix (s.1 + (1 : Int32)))), .inr (.inr (30, 0)), .inl r757] m757 _
                                refine go_blk h.1 (is := [.aload_n 0, .iload_n 3, .iconst 3, .iadd]) (pc' := 775) (ls' := [some (.inr (.inr (60, 0))), some (.inr (.inr (0, 0))), some (.inr (.inr (30, 0))), some (.inl s.1)]) (st' := [.inl (s.1 + (3 : Int32)), .inr (.inr (60, 0)), .inl (xsc (ix (s.1 + (2 : Int32)))), .inl (xsc (ix (s.1 + (1 : Int32)))), .inr (.inr (30, 0)), .inl r757]) (m' := m757) (by decide +kernel) rfl ?_
                                refine go_sld h (by decide +kernel) (fun b775 => ?_)
                                show Go X (El X) 776 [some (.inr (.inr (60, 0))), some (.inr (.inr (0, 0))), some (.inr (.inr (30, 0))), some (.inl s.1)] [.inl (xsc (ix (s.1 + (3 : Int32)))), .inl (xsc (ix (s.1 + (2 : Int32)))), .inl (xsc (ix (s.1 + (1 : Int32)))), .inr (.inr (30, 0)), .inl r757] m757 _
                                refine go_blk h.1 (is := [.aload_n 0, .iload_n 3, .iconst 4, .iadd]) (pc' := 780) (ls' := [some (.inr (.inr (60, 0))), some (.inr (.inr (0, 0))), some (.inr (.inr (30, 0))), some (.inl s.1)]) (st' := [.inl (s.1 + (4 : Int32)), .inr (.inr (60, 0)), .inl (xsc (ix (s.1 + (3 : Int32)))), .inl (xsc (ix (s.1 + (2 : Int32)))), .inl (xsc (ix (s.1 + (1 : Int32)))), .inr (.inr (30, 0)), .inl r757]) (m' := m757) (by decide +kernel) rfl ?_
                                refine go_sld h (by decide +kernel) (fun b780 => ?_)
                                show Go X (El X) 781 [some (.inr (.inr (60, 0))), some (.inr (.inr (0, 0))), some (.inr (.inr (30, 0))), some (.inl s.1)] [.inl (xsc (ix (s.1 + (4 : Int32)))), .inl (xsc (ix (s.1 + (3 : Int32)))), .inl (xsc (ix (s.1 + (2 : Int32)))), .inl (xsc (ix (s.1 + (1 : Int32)))), .inr (.inr (30, 0)), .inl r757] m757 _
                                refine go_blk h.1 (is := [.aload_n 0, .iload_n 3, .iconst 5, .iadd]) (pc' := 785) (ls' := [some (.inr (.inr (60, 0))), some (.inr (.inr (0, 0))), some (.inr (.inr (30, 0))), some (.inl s.1)]) (st' := [.inl (s.1 + (5 : Int32)), .inr (.inr (60, 0)), .inl (xsc (ix (s.1 + (4 : Int32)))), .inl (xsc (ix (s.1 + (3 : Int32)))), .inl (xsc (ix (s.1 + (2 : Int32)))), .inl (xsc (ix (s.1 + (1 : Int32)))), .inr (.inr (30, 0)), .inl r757]) (m' := m757) (by decide +kernel) rfl ?_
                                refine go_sld h (by decide +kernel) (fun b785 => ?_)
                                show Go X (El X) 786 [some (.inr (.inr (60, 0))), some (.inr (.inr (0, 0))), some (.inr (.inr (30, 0))), some (.inl s.1)] [.inl (xsc (ix (s.1 + (5 : Int32)))), .inl (xsc (ix (s.1 + (4 : Int32)))), .inl (xsc (ix (s.1 + (3 : Int32)))), .inl (xsc (ix (s.1 + (2 : Int32)))), .inl (xsc (ix (s.1 + (1 : Int32)))), .inr (.inr (30, 0)), .inl r757] m757 _
                                refine go_callV h.1 (index := 73) (n := 5) (t := 30) (i := 0) (ci := 7) (nf := 35) (cz := (RX7, TX7, 35)) (as := [.inl (xsc (ix (s.1 + (1 : Int32)))), .inl (xsc (ix (s.1 + (2 : Int32)))), .inl (xsc (ix (s.1 + (3 : Int32)))), .inl (xsc (ix (s.1 + (4 : Int32)))), .inl (xsc (ix (s.1 + (5 : Int32))))]) (rest := [.inl r757]) (ctr_X7_had (xl X) (xA X) (xC X) (xI X) (xk X) (xsc (ix (s.1 + (1 : Int32)))) (xsc (ix (s.1 + (2 : Int32)))) (xsc (ix (s.1 + (3 : Int32)))) (xsc (ix (s.1 + (4 : Int32)))) (xsc (ix (s.1 + (5 : Int32)))) m757) (by decide +kernel) rfl rfl wd_v_L_73 rfl (h.room (by first | decide | omega) (by decide)) h.cl (Nat.le_of_ble_eq_true rfl) puI_ok rfl (fun r786 m786 _ => ?_)
                                show Go X (El X) 789 [some (.inr (.inr (60, 0))), some (.inr (.inr (0, 0))), some (.inr (.inr (30, 0))), some (.inl s.1)] [.inl r786, .inl r757] m786 _
                                refine go_icmpeq h.1 (off := 529) 1318 (by decide +kernel) (by decide) (fun c789 => ?_) (fun c789 => ?_)
                                · exact g_L_law_j1318 L xsc h next exit s.1 m786 hn hx
                                · refine go_blk h.1 (is := [.iconst 0]) (pc' := 793) (ls' := [some (.inr (.inr (60, 0))), some (.inr (.inr (0, 0))), some (.inr (.inr (30, 0))), some (.inl s.1)]) (st' := [.inl (0 : Int32)]) (m' := m786) (by decide +kernel) rfl ?_
                                  exact go_law0
                              · refine go_ite (fun w33_14 => ?_) (fun w33_14 => ?_)
                                · refine go_tsIn h.1 (dflt := 1285) (lo := 0) (hi := 27) (offs := #[127, 180, 213, 236, 269, 292, 355, 430, 493, 526, 579, 642, 675, 698, 761, 814, 877, 941, 984, 1007, 1050, 1094, 1157, 1180, 1203, 1236, 1249, 1262]) (len := 127) (off := 761) (14 : Int32) 794 w33_14 (by decide +kernel) (by decide) rfl (by decide) ?_
                                  refine go_blk h.1 (is := [.aload_n 1, .aload_n 0, .iload_n 3, .iconst 1, .iadd]) (pc' := 799) (ls' := [some (.inr (.inr (60, 0))), some (.inr (.inr (0, 0))), some (.inr (.inr (30, 0))), some (.inl s.1)]) (st' := [.inl (s.1 + (1 : Int32)), .inr (.inr (60, 0)), .inr (.inr (0, 0))]) (m' := s.2) (by decide +kernel) rfl ?_
                                  refine go_sld h (by decide +kernel) (fun b799 => ?_)
                                  show Go X (El X) 800 [some (.inr (.inr (60, 0))), some (.inr (.inr (0, 0))), some (.inr (.inr (30, 0))), some (.inl s.1)] [.inl (xsc (ix (s.1 + (1 : Int32)))), .inr (.inr (0, 0))] s.2 _
                                  refine go_blk h.1 (is := [.aload_n 0, .iload_n 3, .iconst 2, .iadd]) (pc' := 804) (ls' := [some (.inr (.inr (60, 0))), some (.inr (.inr (0, 0))), some (.inr (.inr (30, 0))), some (.inl s.1)]) (st' := [.inl (s.1 + (2 : Int32)), .inr (.inr (60, 0)), .inl (xsc (ix (s.1 + (1 : Int32)))), .inr (.inr (0, 0))]) (m' := s.2) (by decide +kernel) rfl ?_
                                  refine go_sld h (by decide +kernel) (fun b804 => ?_)
                                  show Go X (El X) 805 [some (.inr (.inr (60, 0))), some (.inr (.inr (0, 0))), some (.inr (.inr (30, 0))), some (.inl s.1)] [.inl (xsc (ix (s.1 + (2 : Int32)))), .inl (xsc (ix (s.1 + (1 : Int32)))), .inr (.inr (0, 0))] s.2 _
                                  refine go_blk h.1 (is := [.aload_n 0, .iload_n 3, .iconst 3, .iadd]) (pc' := 809) (ls' := [some (.inr (.inr (60, 0))), some (.inr (.inr (0, 0))), some (.inr (.inr (30, 0))), some (.inl s.1)]) (st' := [.inl (s.1 + (3 : Int32)), .inr (.inr (60, 0)), .inl (xsc (ix (s.1 + (2 : Int32)))), .inl (xsc (ix (s.1 + (1 : Int32)))), .inr (.inr (0, 0))]) (m' := s.2) (by decide +kernel) rfl ?_
                                  refine go_sld h (by decide +kernel) (fun b809 => ?_)
                                  show Go X (El X) 810 [some (.inr (.inr (60, 0))), some (.inr (.inr (0, 0))), some (.inr (.inr (30, 0))), some (.inl s.1)] [.inl (xsc (ix (s.1 + (3 : Int32)))), .inl (xsc (ix (s.1 + (2 : Int32)))), .inl (xsc (ix (s.1 + (1 : Int32)))), .inr (.inr (0, 0))] s.2 _
                                  refine go_blk h.1 (is := [.aload_n 0, .iload_n 3, .iconst 4, .iadd]) (pc' := 814) (ls' := [some (.inr (.inr (60, 0))), some (.inr (.inr (0, 0))), some (.inr (.inr (30, 0))), some (.inl s.1)]) (st' := [.inl (s.1 + (4 : Int32)), .inr (.inr (60, 0)), .inl (xsc (ix (s.1 + (3 : Int32)))), .inl (xsc (ix (s.1 + (2 : Int32)))), .inl (xsc (ix (s.1 + (1 : Int32)))), .inr (.inr (0, 0))]) (m' := s.2) (by decide +kernel) rfl ?_
                                  refine go_sld h (by decide +kernel) (fun b814 => ?_)
                                  show Go X (El X) 815 [some (.inr (.inr (60, 0))), some (.inr (.inr (0, 0))), some (.inr (.inr (30, 0))), some (.inl s.1)] [.inl (xsc (ix (s.1 + (4 : Int32)))), .inl (xsc (ix (s.1 + (3 : Int32)))), .inl (xsc (ix (s.1 + (2 : Int32)))), .inl (xsc (ix (s.1 + (1 : Int32)))), .inr (.inr (0, 0))] s.2 _
                                  refine go_callV h.1 (index := 74) (n := 4) (t := 0) (i := 0) (ci := 6) (nf := 7) (cz := (RX6, TX6, 7)) (as := [.inl (xsc (ix (s.1 + (1 : Int32)))), .inl (xsc (ix (s.1 + (2 : Int32)))), .inl (xsc (ix (s.1 + (3 : Int32)))), .inl (xsc (ix (s.1 + (4 : Int32))))]) (rest := []) (ctr_X6_dears (xl X) (xA X) (xC X) (xI X) (xk X) (xsc (ix (s.1 + (1 : Int32)))) (xsc (ix (s.1 + (2 : Int32)))) (xsc (ix (s.1 + (3 : Int32)))) (xsc (ix (s.1 + (4 : Int32)))) s.2) (by decide +kernel) rfl rfl wd_v_L_74 rfl (h.room (by first | decide | omega) (by decide)) h.cl (Nat.le_of_ble_eq_true rfl) puI_ok rfl (fun r815 m815 _ => ?_)
                                  show Go X (El X) 818 [some (.inr (.inr (60, 0))), some (.inr (.inr (0, 0))), some (.inr (.inr (30, 0))), some (.inl s.1)] [.inl r815] m815 _
                                  refine go_blk h.1 (is := [.aload_n 2, .aload_n 0, .iload_n 3, .iconst 1, .iadd]) (pc' := 823) (ls' := [some (.inr (.inr (60, 0))), some (.inr (.inr (0, 0))), some (.inr (.inr (30, 0))), some (.inl s.1)]) (st' := [.inl (s.1 + (1 : Int32)), .inr (.inr (60, 0)), .inr (.inr (30, 0)), .inl r815]) (m' := m815) (by decide +kernel) rfl ?_
                                  refine go_sld h (by decide +kernel) (fun b823 => ?_)
                                  show Go X (El X) 824 [some (.inr (.inr (60, 0))), some (.inr (.inr (0, 0))), some (.inr (.inr (30, 0))), some (.inl s.1)] [.inl (xsc (ix (s.1 + (1 : Int32)))), .inr (.inr (30, 0)), .inl r815] m815 _
                                  refine go_blk h.1 (is := [.aload_n 0, .iload_n 3, .iconst 2, .iadd]) (pc' := 828) (ls' := [some (.inr (.inr (60, 0))), some (.inr (.inr (0, 0))), some (.inr (.inr (30, 0))), some (.inl s.1)]) (st' := [.inl (s.1 + (2 : Int32)), .inr (.inr (60, 0)), .inl (xsc (ix (s.1 + (1 : Int32)))), .inr (.inr (30, 0)), .inl r815]) (m' := m815) (by decide +kernel) rfl ?_
                                  refine go_sld h (by decide +kernel) (fun b828 => ?_)
                                  show Go X (El X) 829 [some (.inr (.inr (60, 0))), some (.inr (.inr (0, 0))), some (.inr (.inr (30, 0))), some (.inl s.1)] [.inl (xsc (ix (s.1 + (2 : Int32)))), .inl (xsc (ix (s.1 + (1 : Int32)))), .inr (.inr (30, 0)), .inl r815] m815 _
                                  refine go_blk h.1 (is := [.aload_n 0, .iload_n 3, .iconst 3, .iadd]) (pc' := 833) (ls' := [some (.inr (.inr (60, 0))), some (.inr (.inr (0, 0))), some (.inr (.inr (30, 0))), some (.inl s.1)]) (st' := [.inl (s.1 + (3 : Int32)), .inr (.inr (60, 0)), .inl (xsc (ix (s.1 + (2 : Int32)))), .inl (xsc (ix (s.1 + (1 : Int32)))), .inr (.inr (30, 0)), .inl r815]) (m' := m815) (by decide +kernel) rfl ?_
                                  refine go_sld h (by decide +kernel) (fun b833 => ?_)
                                  show Go X (El X) 834 [some (.inr (.inr (60, 0))), some (.inr (.inr (0, 0))), some (.inr (.inr (30, 0))), some (.inl s.1)] [.inl (xsc (ix (s.1 + (3 : Int32)))), .inl (xsc (ix (s.1 + (2 : Int32)))), .inl (xsc (ix (s.1 + (1 : Int32)))), .inr (.inr (30, 0)), .inl r815] m815 _
                                  refine go_blk h.1 (is := [.aload_n 0, .iload_n 3, .iconst 4, .iadd]) (pc' := 838) (ls' := [some (.inr (.inr (60, 0))), some (.inr (.inr (0, 0))), some (.inr (.inr (30, 0))), some (.inl s.1)]) (st' := [.inl (s.1 + (4 : Int32)), .inr (.inr (60, 0)), .inl (xsc (ix (s.1 + (3 : Int32)))), .inl (xsc (ix (s.1 + (2 : Int32)))), .inl (xsc (ix (s.1 + (1 : Int32)))), .inr (.inr (30, 0)), .inl r815]) (m' := m815) (by decide +kernel) rfl ?_
                                  refine go_sld h (by decide +kernel) (fun b838 => ?_)
                                  show Go X (El X) 839 [some (.inr (.inr (60, 0))), some (.inr (.inr (0, 0))), some (.inr (.inr (30, 0))), some (.inl s.1)] [.inl (xsc (ix (s.1 + (4 : Int32)))), .inl (xsc (ix (s.1 + (3 : Int32)))), .inl (xsc (ix (s.1 + (2 : Int32)))), .inl (xsc (ix (s.1 + (1 : Int32)))), .inr (.inr (30, 0)), .inl r815] m815 _
                                  refine go_callV h.1 (index := 77) (n := 4) (t := 30) (i := 0) (ci := 7) (nf := 35) (cz := (RX7, TX7, 35)) (as := [.inl (xsc (ix (s.1 + (1 : Int32)))), .inl (xsc (ix (s.1 + (2 : Int32)))), .inl (xsc (ix (s.1 + (3 : Int32)))), .inl (xsc (ix (s.1 + (4 : Int32))))]) (rest := [.inl r815]) (ctr_X7_dears (xl X) (xA X) (xC X) (xI X) (xk X) (xsc (ix (s.1 + (1 : Int32)))) (xsc (ix (s.1 + (2 : Int32)))) (xsc (ix (s.1 + (3 : Int32)))) (xsc (ix (s.1 + (4 : Int32)))) m815) (by decide +kernel) rfl rfl wd_v_L_77 rfl (h.room (by first | decide | omega) (by decide)) h.cl (Nat.le_of_ble_eq_true rfl) puI_ok rfl (fun r839 m839 _ => ?_)
                                  show Go X (El X) 842 [some (.inr (.inr (60, 0))), some (.inr (.inr (0, 0))), some (.inr (.inr (30, 0))), some (.inl s.1)] [.inl r839, .inl r815] m839 _
                                  refine go_icmpeq h.1 (off := 476) 1318 (by decide +kernel) (by decide) (fun c842 => ?_) (fun c842 => ?_)
                                  · exact g_L_law_j1318 L xsc h next exit s.1 m839 hn hx
                                  · refine go_blk h.1 (is := [.iconst 0]) (pc' := 846) (ls' := [some (.inr (.inr (60, 0))), some (.inr (.inr (0, 0))), some (.inr (.inr (30, 0))), some (.inl s.1)]) (st' := [.inl (0 : Int32)]) (m' := m839) (by decide +kernel) rfl ?_
                                    exact go_law0
                                · refine go_ite (fun w33_15 => ?_) (fun w33_15 => ?_)
                                  · refine go_tsIn h.1 (dflt := 1285) (lo := 0) (hi := 27) (offs := #[127, 180, 213, 236, 269, 292, 355, 430, 493, 526, 579, 642, 675, 698, 761, 814, 877, 941, 984, 1007, 1050, 1094, 1157, 1180, 1203, 1236, 1249, 1262]) (len := 127) (off := 814) (15 : Int32) 847 w33_15 (by decide +kernel) (by decide) rfl (by decide) ?_
                                    refine go_blk h.1 (is := [.aload_n 1, .aload_n 0, .iload_n 3, .iconst 1, .iadd]) (pc' := 852) (ls' := [some (.inr (.inr (60, 0))), some (.inr (.inr (0, 0))), some (.inr (.inr (30, 0))), some (.inl s.1)]) (st' := [.inl (s.1 + (1 : Int32)), .inr (.inr (60, 0)), .inr (.inr (0, 0))]) (m' := s.2) (by decide +kernel) rfl ?_
                                    refine go_sld h (by decide +kernel) (fun b852 => ?_)
                                    show Go X (El X) 853 [some (.inr (.inr (60, 0))), some (.inr (.inr (0, 0))), some (.inr (.inr (30, 0))), some (.inl s.1)] [.inl (xsc (ix (s.1 + (1 : Int32)))), .inr (.inr (0, 0))] s.2 _
                                    refine go_blk h.1 (is := [.aload_n 0, .iload_n 3, .iconst 2, .iadd]) (pc' := 857) (ls' := [some (.inr (.inr (60, 0))), some (.inr (.inr (0, 0))), some (.inr (.inr (30, 0))), some (.inl s.1)]) (st' := [.inl (s.1 + (2 : Int32)), .inr (.inr (60, 0)), .inl (xsc (ix (s.1 + (1 : Int32)))), .inr (.inr (0, 0))]) (m' := s.2) (by decide +kernel) rfl ?_
                                    refine go_sld h (by decide +kernel) (fun b857 => ?_)
                                    show Go X (El X) 858 [some (.inr (.inr (60, 0))), some (.inr (.inr (0, 0))), some (.inr (.inr (30, 0))), some (.inl s.1)] [.inl (xsc (ix (s.1 + (2 : Int32)))), .inl (xsc (ix (s.1 + (1 : Int32)))), .inr (.inr (0, 0))] s.2 _
                                    refine go_blk h.1 (is := [.aload_n 0, .iload_n 3, .iconst 3, .iadd]) (pc' := 862) (ls' := [some (.inr (.inr (60, 0))), some (.inr (.inr (0, 0))), some (.inr (.inr (30, 0))), some (.inl s.1)]) (st' := [.inl (s.1 + (3 : Int32)), .inr (.inr (60, 0)), .inl (xsc (ix (s.1 + (2 : Int32)))), .inl (xsc (ix (s.1 + (1 : Int32)))), .inr (.inr (0, 0))]) (m' := s.2) (by decide +kernel) rfl ?_
                                    refine go_sld h (by decide +kernel) (fun b862 => ?_)
                                    show Go X (El X) 863 [some (.inr (.inr (60, 0))), some (.inr (.inr (0, 0))), some (.inr (.inr (30, 0))), some (.inl s.1)] [.inl (xsc (ix (s.1 + (3 : Int32)))), .inl (xsc (ix (s.1 + (2 : Int32)))), .inl (xsc (ix (s.1 + (1 : Int32)))), .inr (.inr (0, 0))] s.2 _
                                    refine go_blk h.1 (is := [.aload_n 0, .iload_n 3, .iconst 4, .iadd]) (pc' := 867) (ls' := [some (.inr (.inr (60, 0))), some (.inr (.inr (0, 0))), some (.inr (.inr (30, 0))), some (.inl s.1)]) (st' := [.inl (s.1 + (4 : Int32)), .inr (.inr (60, 0)), .inl (xsc (ix (s.1 + (3 : Int32)))), .inl (xsc (ix (s.1 + (2 : Int32)))), .inl (xsc (ix (s.1 + (1 : Int32)))), .inr (.inr (0, 0))]) (m' := s.2) (by decide +kernel) rfl ?_
                                    refine go_sld h (by decide +kernel) (fun b867 => ?_)
                                    show Go X (El X) 868 [some (.inr (.inr (60, 0))), some (.inr (.inr (0, 0))), some (.inr (.inr (30, 0))), some (.inl s.1)] [.inl (xsc (ix (s.1 + (4 : Int32)))), .inl (xsc (ix (s.1 + (3 : Int32)))), .inl (xsc (ix (s.1 + (2 : Int32)))), .inl (xsc (ix (s.1 + (1 : Int32)))), .inr (.inr (0, 0))] s.2 _
                                    refine go_blk h.1 (is := [.aload_n 0, .iload_n 3, .iconst 5, .iadd]) (pc' := 872) (ls' := [some (.inr (.inr (60, 0))), some (.inr (.inr (0, 0))), some (.inr (.inr (30, 0))), some (.inl s.1)]) (st' := [.inl (s.1 + (5 : Int32)), .inr (.inr (60, 0)), .inl (xsc (ix (s.1 + (4 : Int32)))), .inl (xsc (ix (s.1 + (3 : Int32)))), .inl (xsc (ix (s.1 + (2 : Int32)))), .inl (xsc (ix (s.1 + (1 : Int32)))), .inr (.inr (0, 0))]) (m' := s.2) (by decide +kernel) rfl ?_
                                    refine go_sld h (by decide +kernel) (fun b872 => ?_)
                                    show Go X (El X) 873 [some (.inr (.inr (60, 0))), some (.inr (.inr (0, 0))), some (.inr (.inr (30, 0))), some (.inl s.1)] [.inl (xsc (ix (s.1 + (5 : Int32)))), .inl (xsc (ix (s.1 + (4 : Int32)))), .inl (xsc (ix (s.1 + (3 : Int32)))), .inl (xsc (ix (s.1 + (2 : Int32)))), .inl (xsc (ix (s.1 + (1 : Int32)))), .inr (.inr (0, 0))] s.2 _
                                    refine go_callV h.1 (index := 78) (n := 5) (t := 0) (i := 0) (ci := 6) (nf := 7) (cz := (RX6, TX6, 7)) (as := [.inl (xsc (ix (s.1 + (1 : Int32)))), .inl (xsc (ix (s.1 + (2 : Int32)))), .inl (xsc (ix (s.1 + (3 : Int32)))), .inl (xsc (ix (s.1 + (4 : Int32)))), .inl (xsc (ix (s.1 + (5 : Int32))))]) (rest := []) (ctr_X6_kinds (xl X) (xA X) (xC X) (xI X) (xk X) (xsc (ix (s.1 + (1 : Int32)))) (xsc (ix (s.1 + (2 : Int32)))) (xsc (ix (s.1 + (3 : Int32)))) (xsc (ix (s.1 + (4 : Int32)))) (xsc (ix (s.1 + (5 : Int32)))) s.2) (by decide +kernel) rfl rfl wd_v_L_78 rfl (h.room (by first | decide | omega) (by decide)) h.cl (Nat.le_of_ble_eq_true rfl) puI_ok rfl (fun r873 m873 _ => ?_)
                                    show Go X (El X) 876 [some (.inr (.inr (60, 0))), some (.inr (.inr (0, 0))), some (.inr (.inr (30, 0))), some (.inl s.1)] [.inl r873] m873 _
                                    refine go_blk h.1 (is := [.aload_n 2, .aload_n 0, .iload_n 3, .iconst 1, .iadd]) (pc' := 881) (ls' := [some (.inr (.inr (60, 0))), some (.inr (.inr (0, 0))), some (.inr (.inr (30, 0))), some (.inl s.1)]) (st' := [.inl (s.1 + (1 : Int32)), .inr (.inr (60, 0)), .inr (.inr (30, 0)), .inl r873]) (m' := m873) (by decide +kernel) rfl ?_
                                    refine go_sld h (by decide +kernel) (fun b881 => ?_)
                                    show Go X (El X) 882 [some (.inr (.inr (60, 0))), some (.inr (.inr (0, 0))), some (.inr (.inr (30, 0))), some (.inl s.1)] [.inl (xsc (ix (s.1 + (1 : Int32)))), .inr (.inr (30, 0)), .inl r873] m873 _
                                    refine go_blk h.1 (is := [.aload_n 0, .iload_n 3, .iconst 2, .iadd]) (pc' := 886) (ls' := [some (.inr (.inr (60, 0))), some (.inr (.inr (0, 0))), some (.inr (.inr (30, 0))), some (.inl s.1)]) (st' := [.inl (s.1 + (2 : Int32)), .inr (.inr (60, 0)), .inl (xsc (ix (s.1 + (1 : Int32)))), .inr (.inr (30, 0)), .inl r873]) (m' := m873) (by decide +kernel) rfl ?_
                                    refine go_sld h (by decide +kernel) (fun b886 => ?_)
                                    show Go X (El X) 887 [some (.inr (.inr (60, 0))), some (.inr (.inr (0, 0))), some (.inr (.inr (30, 0))), some (.inl s.1)] [.inl (xsc (ix (s.1 + (2 : Int32)))), .inl (xsc (ix (s.1 + (1 : Int32)))), .inr (.inr (30, 0)), .inl r873] m873 _
                                    refine go_blk h.1 (is := [.aload_n 0, .iload_n 3, .iconst 3, .iadd]) (pc' := 891) (ls' := [some (.inr (.inr (60, 0))), some (.inr (.inr (0, 0))), some (.inr (.inr (30, 0))), some (.inl s.1)]) (st' := [.inl (s.1 + (3 : Int32)), .inr (.inr (60, 0)), .inl (xsc (ix (s.1 + (2 : Int32)))), .inl (xsc (ix (s.1 + (1 : Int32)))), .inr (.inr (30, 0)), .inl r873]) (m' := m873) (by decide +kernel) rfl ?_
                                    refine go_sld h (by decide +kernel) (fun b891 => ?_)
                                    show Go X (El X) 892 [some (.inr (.inr (60, 0))), some (.inr (.inr (0, 0))), some (.inr (.inr (30, 0))), some (.inl s.1)] [.inl (xsc (ix (s.1 + (3 : Int32)))), .inl (xsc (ix (s.1 + (2 : Int32)))), .inl (xsc (ix (s.1 + (1 : Int32)))), .inr (.inr (30, 0)), .inl r873] m873 _
                                    refine go_blk h.1 (is := [.aload_n 0, .iload_n 3, .iconst 4, .iadd]) (pc' := 896) (ls' := [some (.inr (.inr (60, 0))), some (.inr (.inr (0, 0))), some (.inr (.inr (30, 0))), some (.inl s.1)]) (st' := [.inl (s.1 + (4 : Int32)), .inr (.inr (60, 0)), .inl (xsc (ix (s.1 + (3 : Int32)))), .inl (xsc (ix (s.1 + (2 : Int32)))), .inl (xsc (ix (s.1 + (1 : Int32)))), .inr (.inr (30, 0)), .inl r873]) (m' := m873) (by decide +kernel) rfl ?_
                                    refine go_sld h (by decide +kernel) (fun b896 => ?_)
                                    show Go X (El X) 897 [some (.inr (.inr (60, 0))), some (.inr (.inr (0, 0))), some (.inr (.inr (30, 0))), some (.inl s.1)] [.inl (xsc (ix (s.1 + (4 : Int32)))), .inl (xsc (ix (s.1 + (3 : Int32)))), .inl (xsc (ix (s.1 + (2 : Int32)))), .inl (xsc (ix (s.1 + (1 : Int32)))), .inr (.inr (30, 0)), .inl r873] m873 _
                                    refine go_blk h.1 (is := [.aload_n 0, .iload_n 3, .iconst 5, .iadd]) (pc' := 901) (ls' := [some (.inr (.inr (60, 0))), some (.inr (.inr (0, 0))), some (.inr (.inr (30, 0))), some (.inl s.1)]) (st' := [.inl (s.1 + (5 : Int32)), .inr (.inr (60, 0)), .inl (xsc (ix (s.1 + (4 : Int32)))), .inl (xsc (ix (s.1 + (3 : Int32)))), .inl (xsc (ix (s.1 + (2 : Int32)))), .inl (xsc (ix (s.1 + (1 : Int32)))), .inr (.inr (30, 0)), .inl r873]) (m' := m873) (by decide +kernel) rfl ?_
                                    refine go_sld h (by decide +kernel) (fun b901 => ?_)
                                    show Go X (El X) 902 [some (.inr (.inr (60, 0))), some (.inr (.inr (0, 0))), some (.inr (.inr (30, 0))), some (.inl s.1)] [.inl (xsc (ix (s.1 + (5 : Int32)))), .inl (xsc (ix (s.1 + (4 : Int32)))), .inl (xsc (ix (s.1 + (3 : Int32)))), .inl (xsc (ix (s.1 + (2 : Int32)))), .inl (xsc (ix (s.1 + (1 : Int32)))), .inr (.inr (30, 0)), .inl r873] m873 _
                                    refine go_callV h.1 (index := 81) (n := 5) (t := 30) (i := 0) (ci := 7) (nf := 35) (cz := (RX7, TX7, 35)) (as := [.inl (xsc (ix (s.1 + (1 : Int32)))), .inl (xsc (ix (s.1 + (2 : Int32)))), .inl (xsc (ix (s.1 + (3 : Int32)))), .inl (xsc (ix (s.1 + (4 : Int32)))), .inl (xsc (ix (s.1 + (5 : Int32))))]) (rest := [.inl r873]) (ctr_X7_kinds (xl X) (xA X) (xC X) (xI X) (xk X) (xsc (ix (s.1 + (1 : Int32)))) (xsc (ix (s.1 + (2 : Int32)))) (xsc (ix (s.1 + (3 : Int32)))) (xsc (ix (s.1 + (4 : Int32)))) (xsc (ix (s.1 + (5 : Int32)))) m873) (by decide +kernel) rfl rfl wd_v_L_81 rfl (h.room (by first | decide | omega) (by decide)) h.cl (Nat.le_of_ble_eq_true rfl) puI_ok rfl (fun r902 m902 _ => ?_)
                                    show Go X (El X) 905 [some (.inr (.inr (60, 0))), some (.inr (.inr (0, 0))), some (.inr (.inr (30, 0))), some (.inl s.1)] [.inl r902, .inl r873] m902 _
                                    refine go_icmpeq h.1 (off := 413) 1318 (by decide +kernel) (by decide) (fun c905 => ?_) (fun c905 => ?_)
                                    · exact g_L_law_j1318 L xsc h next exit s.1 m902 hn hx
                                    · refine go_blk h.1 (is := [.iconst 0]) (pc' := 909) (ls' := [some (.inr (.inr (60, 0))), some (.inr (.inr (0, 0))), some (.inr (.inr (30, 0))), some (.inl s.1)]) (st' := [.inl (0 : Int32)]) (m' := m902) (by decide +kernel) rfl ?_
                                      exact go_law0
                                  · refine go_ite (fun w33_16 => ?_) (fun w33_16 => ?_)
                                    · refine go_tsIn h.1 (dflt := 1285) (lo := 0) (hi := 27) (offs := #[127, 180, 213, 236, 269, 292, 355, 430, 493, 526, 579, 642, 675, 698, 761, 814, 877, 941, 984, 1007, 1050, 1094, 1157, 1180, 1203, 1236, 1249, 1262]) (len := 127) (off := 877) (16 : Int32) 910 w33_16 (by decide +kernel) (by decide) rfl (by decide) ?_
                                      refine go_blk h.1 (is := [.aload_n 1, .aload_n 0, .iload_n 3, .iconst 1, .iadd]) (pc' := 915) (ls' := [some (.inr (.inr (60, 0))), some (.inr (.inr (0, 0))), some (.inr (.inr (30, 0))), some (.inl s.1)]) (st' := [.inl (s.1 + (1 : Int32)), .inr (.inr (60, 0)), .inr (.inr (0, 0))]) (m' := s.2) (by decide +kernel) rfl ?_
                                      refine go_sld h (by decide +kernel) (fun b915 => ?_)
                                      show Go X (El X) 916 [some (.inr (.inr (60, 0))), some (.inr (.inr (0, 0))), some (.inr (.inr (30, 0))), some (.inl s.1)] [.inl (xsc (ix (s.1 + (1 : Int32)))), .inr (.inr (0, 0))] s.2 _
                                      refine go_blk h.1 (is := [.aload_n 0, .iload_n 3, .iconst 2, .iadd]) (pc' := 920) (ls' := [some (.inr (.inr (60, 0))), some (.inr (.inr (0, 0))), some (.inr (.inr (30, 0))), some (.inl s.1)]) (st' := [.inl (s.1 + (2 : Int32)), .inr (.inr (60, 0)), .inl (xsc (ix (s.1 + (1 : Int32)))), .inr (.inr (0, 0))]) (m' := s.2) (by decide +kernel) rfl ?_
                                      refine go_sld h (by decide +kernel) (fun b920 => ?_)
                                      show Go X (El X) 921 [some (.inr (.inr (60, 0))), some (.inr (.inr (0, 0))), some (.inr (.inr (30, 0))), some (.inl s.1)] [.inl (xsc (ix (s.1 + (2 : Int32)))), .inl (xsc (ix (s.1 + (1 : Int32)))), .inr (.inr (0, 0))] s.2 _
                                      refine go_blk h.1 (is := [.aload_n 0, .iload_n 3, .iconst 3, .iadd]) (pc' := 925) (ls' := [some (.inr (.inr (60, 0))), some (.inr (.inr (0, 0))), some (.inr (.inr (30, 0))), some (.inl s.1)]) (st' := [.inl (s.1 + (3 : Int32)), .inr (.inr (60, 0)), .inl (xsc (ix (s.1 + (2 : Int32)))), .inl (xsc (ix (s.1 + (1 : Int32)))), .inr (.inr (0, 0))]) (m' := s.2) (by decide +kernel) rfl ?_
                                      refine go_sld h (by decide +kernel) (fun b925 => ?_)
                                      show Go X (El X) 926 [some (.inr (.inr (60, 0))), some (.inr (.inr (0, 0))), some (.inr (.inr (30, 0))), some (.inl s.1)] [.inl (xsc (ix (s.1 + (3 : Int32)))), .inl (xsc (ix (s.1 + (2 : Int32)))), .inl (xsc (ix (s.1 + (1 : Int32)))), .inr (.inr (0, 0))] s.2 _
                                      refine go_blk h.1 (is := [.aload_n 0, .iload_n 3, .iconst 4, .iadd]) (pc' := 930) (ls' := [some (.inr (.inr (60, 0))), some (.inr (.inr (0, 0))), some (.inr (.inr (30, 0))), some (.inl s.1)]) (st' := [.inl (s.1 + (4 : Int32)), .inr (.inr (60, 0)), .inl (xsc (ix (s.1 + (3 : Int32)))), .inl (xsc (ix (s.1 + (2 : Int32)))), .inl (xsc (ix (s.1 + (1 : Int32)))), .inr (.inr (0, 0))]) (m' := s.2) (by decide +kernel) rfl ?_
                                      refine go_sld h (by decide +kernel) (fun b930 => ?_)
                                      show Go X (El X) 931 [some (.inr (.inr (60, 0))), some (.inr (.inr (0, 0))), some (.inr (.inr (30, 0))), some (.inl s.1)] [.inl (xsc (ix (s.1 + (4 : Int32)))), .inl (xsc (ix (s.1 + (3 : Int32)))), .inl (xsc (ix (s.1 + (2 : Int32)))), .inl (xsc (ix (s.1 + (1 : Int32)))), .inr (.inr (0, 0))] s.2 _
                                      refine go_blk h.1 (is := [.aload_n 0, .iload_n 3, .iconst 5, .iadd]) (pc' := 935) (ls' := [some (.inr (.inr (60, 0))), some (.inr (.inr (0, 0))), some (.inr (.inr (30, 0))), some (.inl s.1)]) (st' := [.inl (s.1 + (5 : Int32)), .inr (.inr (60, 0)), .inl (xsc (ix (s.1 + (4 : Int32)))), .inl (xsc (ix (s.1 + (3 : Int32)))), .inl (xsc (ix (s.1 + (2 : Int32)))), .inl (xsc (ix (s.1 + (1 : Int32)))), .inr (.inr (0, 0))]) (m' := s.2) (by decide +kernel) rfl ?_
                                      refine go_sld h (by decide +kernel) (fun b935 => ?_)
                                      show Go X (El X) 936 [some (.inr (.inr (60, 0))), some (.inr (.inr (0, 0))), some (.inr (.inr (30, 0))), some (.inl s.1)] [.inl (xsc (ix (s.1 + (5 : Int32)))), .inl (xsc (ix (s.1 + (4 : Int32)))), .inl (xsc (ix (s.1 + (3 : Int32)))), .inl (xsc (ix (s.1 + (2 : Int32)))), .inl (xsc (ix (s.1 + (1 : Int32)))), .inr (.inr (0, 0))] s.2 _
                                      refine go_callV h.1 (index := 82) (n := 5) (t := 0) (i := 0) (ci := 6) (nf := 7) (cz := (RX6, TX6, 7)) (as := [.inl (xsc (ix (s.1 + (1 : Int32)))), .inl (xsc (ix (s.1 + (2 : Int32)))), .inl (xsc (ix (s.1 + (3 : Int32)))), .inl (xsc (ix (s.1 + (4 : Int32)))), .inl (xsc (ix (s.1 + (5 : Int32))))]) (rest := []) (ctr_X6_odds (xl X) (xA X) (xC X) (xI X) (xk X) (xsc (ix (s.1 + (1 : Int32)))) (xsc (ix (s.1 + (2 : Int32)))) (xsc (ix (s.1 + (3 : Int32)))) (xsc (ix (s.1 + (4 : Int32)))) (xsc (ix (s.1 + (5 : Int32)))) s.2) (by decide +kernel) rfl rfl wd_v_L_82 rfl (h.room (by first | decide | omega) (by decide)) h.cl (Nat.le_of_ble_eq_true rfl) puL_ok rfl (fun r936 m936 _ => ?_)
                                      show Go X (El X) 939 [some (.inr (.inr (60, 0))), some (.inr (.inr (0, 0))), some (.inr (.inr (30, 0))), some (.inl s.1)] [.inr (.inl r936)] m936 _
                                      refine go_blk h.1 (is := [.aload_n 2, .aload_n 0, .iload_n 3, .iconst 1, .iadd]) (pc' := 944) (ls' := [some (.inr (.inr (60, 0))), some (.inr (.inr (0, 0))), some (.inr (.inr (30, 0))), some (.inl s.1)]) (st' := [.inl (s.1 + (1 : Int32)), .inr (.inr (60, 0)), .inr (.inr (30, 0)), .inr (.inl r936)]) (m' := m936) (by decide +kernel) rfl ?_
                                      refine go_sld h (by decide +kernel) (fun b944 => ?_)
                                      show Go X (El X) 945 [some (.inr (.inr (60, 0))), some (.inr (.inr (0, 0))), some (.inr (.inr (30, 0))), some (.inl s.1)] [.inl (xsc (ix (s.1 + (1 : Int32)))), .inr (.inr (30, 0)), .inr (.inl r936)] m936 _
                                      refine go_blk h.1 (is := [.aload_n 0, .iload_n 3, .iconst 2, .iadd]) (pc' := 949) (ls' := [some (.inr (.inr (60, 0))), some (.inr (.inr (0, 0))), some (.inr (.inr (30, 0))), some (.inl s.1)]) (st' := [.inl (s.1 + (2 : Int32)), .inr (.inr (60, 0)), .inl (xsc (ix (s.1 + (1 : Int32)))), .inr (.inr (30, 0)), .inr (.inl r936)]) (m' := m936) (by decide +kernel) rfl ?_
                                      refine go_sld h (by decide +kernel) (fun b949 => ?_)
                                      show Go X (El X) 950 [some (.inr (.inr (60, 0))), some (.inr (.inr (0, 0))), some (.inr (.inr (30, 0))), some (.inl s.1)] [.inl (xsc (ix (s.1 + (2 : Int32)))), .inl (xsc (ix (s.1 + (1 : Int32)))), .inr (.inr (30, 0)), .inr (.inl r936)] m936 _
                                      refine go_blk h.1 (is := [.aload_n 0, .iload_n 3, .iconst 3, .iadd]) (pc' := 954) (ls' := [some (.inr (.inr (60, 0))), some (.inr (.inr (0, 0))), some (.inr (.inr (30, 0))), some (.inl s.1)]) (st' := [.inl (s.1 + (3 : Int32)), .inr (.inr (60, 0)), .inl (xsc (ix (s.1 + (2 : Int32)))), .inl (xsc (ix (s.1 + (1 : Int32)))), .inr (.inr (30, 0)), .inr (.inl r936)]) (m' := m936) (by decide +kernel) rfl ?_
                                      refine go_sld h (by decide +kernel) (fun b954 => ?_)
                                      show Go X (El X) 955 [some (.inr (.inr (60, 0))), some (.inr (.inr (0, 0))), some (.inr (.inr (30, 0))), some (.inl s.1)] [.inl (xsc (ix (s.1 + (3 : Int32)))), .inl (xsc (ix (s.1 + (2 : Int32)))), .inl (xsc (ix (s.1 + (1 : Int32)))), .inr (.inr (30, 0)), .inr (.inl r936)] m936 _
                                      refine go_blk h.1 (is := [.aload_n 0, .iload_n 3, .iconst 4, .iadd]) (pc' := 959) (ls' := [some (.inr (.inr (60, 0))), some (.inr (.inr (0, 0))), some (.inr (.inr (30, 0))), some (.inl s.1)]) (st' := [.inl (s.1 + (4 : Int32)), .inr (.inr (60, 0)), .inl (xsc (ix (s.1 + (3 : Int32)))), .inl (xsc (ix (s.1 + (2 : Int32)))), .inl (xsc (ix (s.1 + (1 : Int32)))), .inr (.inr (30, 0)), .inr (.inl r936)]) (m' := m936) (by decide +kernel) rfl ?_
                                      refine go_sld h (by decide +kernel) (fun b959 => ?_)
                                      show Go X (El X) 960 [some (.inr (.inr (60, 0))), some (.inr (.inr (0, 0))), some (.inr (.inr (30, 0))), some (.inl s.1)] [.inl (xsc (ix (s.1 + (4 : Int32)))), .inl (xsc (ix (s.1 + (3 : Int32)))), .inl (xsc (ix (s.1 + (2 : Int32)))), .inl (xsc (ix (s.1 + (1 : Int32)))), .inr (.inr (30, 0)), .inr (.inl r936)] m936 _
                                      refine go_blk h.1 (is := [.aload_n 0, .iload_n 3, .iconst 5, .iadd]) (pc' := 964) (ls' := [some (.inr (.inr (60, 0))), some (.inr (.inr (0, 0))), some (.inr (.inr (30, 0))), some (.inl s.1)]) (st' := [.inl (s.1 + (5 : Int32)), .inr (.inr (60, 0)), .inl (xsc (ix (s.1 + (4 : Int32)))), .inl (xsc (ix (s.1 + (3 : Int32)))), .inl (xsc (ix (s.1 + (2 : Int32)))), .inl (xsc (ix (s.1 + (1 : Int32)))), .inr (.inr (30, 0)), .inr (.inl r936)]) (m' := m936) (by decide +kernel) rfl ?_
                                      refine go_sld h (by decide +kernel) (fun b964 => ?_)
                                      show Go X (El X) 965 [some (.inr (.inr (60, 0))), some (.inr (.inr (0, 0))), some (.inr (.inr (30, 0))), some (.inl s.1)] [.inl (xsc (ix (s.1 + (5 : Int32)))), .inl (xsc (ix (s.1 + (4 : Int32)))), .inl (xsc (ix (s.1 + (3 : Int32)))), .inl (xsc (ix (s.1 + (2 : Int32)))), .inl (xsc (ix (s.1 + (1 : Int32)))), .inr (.inr (30, 0)), .inr (.inl r936)] m936 _
                                      refine go_callV h.1 (index := 86) (n := 5) (t := 30) (i := 0) (ci := 7) (nf := 35) (cz := (RX7, TX7, 35)) (as := [.inl (xsc (ix (s.1 + (1 : Int32)))), .inl (xsc (ix (s.1 + (2 : Int32)))), .inl (xsc (ix (s.1 + (3 : Int32)))), .inl (xsc (ix (s.1 + (4 : Int32)))), .inl (xsc (ix (s.1 + (5 : Int32))))]) (rest := [.inr (.inl r936)]) (ctr_X7_odds (xl X) (xA X) (xC X) (xI X) (xk X) (xsc (ix (s.1 + (1 : Int32)))) (xsc (ix (s.1 + (2 : Int32)))) (xsc (ix (s.1 + (3 : Int32)))) (xsc (ix (s.1 + (4 : Int32)))) (xsc (ix (s.1 + (5 : Int32)))) m936) (by decide +kernel) rfl rfl wd_v_L_86 rfl (h.room (by first | decide | omega) (by decide)) h.cl (Nat.le_of_ble_eq_true rfl) puL_ok rfl (fun r965 m965 _ => ?_)
                                      show Go X (El X) 968 [some (.inr (.inr (60, 0))), some (.inr (.inr (0, 0))), some (.inr (.inr (30, 0))), some (.inl s.1)] [.inr (.inl r965), .inr (.inl r936)] m965 _
                                      refine go_blk h.1 (is := [.lcmp]) (pc' := 969) (ls' := [some (.inr (.inr (60, 0))), some (.inr (.inr (0, 0))), some (.inr (.inr (30, 0))), some (.inl s.1)]) (st' := [.inl (lg_cmp r936 r965)]) (m' := m965) (by decide +kernel) rfl ?_
                                      refine go_ifeq h.1 (off := 349) 1318 (by decide +kernel) (by decide) (fun c969 => ?_) (fun c969 => ?_)
                                      · exact g_L_law_j1318 L xsc h next exit s.1 m965 hn hx
                                      · refine go_blk h.1 (is := [.iconst 0]) (pc' := 973) (ls' := [some (.inr (.inr (60, 0))), some (.inr (.inr (0, 0))), some (.inr (.inr (30, 0))), some (.inl s.1)]) (st' := [.inl (0 : Int32)]) (m' := m965) (by decide +kernel) rfl ?_
                                        exact go_law0
                                    · refine go_ite (fun w33_17 => ?_) (fun w33_17 => ?_)
                                      · refine go_tsIn h.1 (dflt := 1285) (lo := 0) (hi := 27) (offs := #[127, 180, 213, 236, 269, 292, 355, 430, 493, 526, 579, 642, 675, 698, 761, 814, 877, 941, 984, 1007, 1050, 1094, 1157, 1180, 1203, 1236, 1249, 1262]) (len := 127) (off := 941) (17 : Int32) 974 w33_17 (by decide +kernel) (by decide) rfl (by decide) ?_
                                        refine go_blk h.1 (is := [.aload_n 1, .aload_n 0, .iload_n 3, .iconst 1, .iadd]) (pc' := 979) (ls' := [some (.inr (.inr (60, 0))), some (.inr (.inr (0, 0))), some (.inr (.inr (30, 0))), some (.inl s.1)]) (st' := [.inl (s.1 + (1 : Int32)), .inr (.inr (60, 0)), .inr (.inr (0, 0))]) (m' := s.2) (by decide +kernel) rfl ?_
                                        refine go_sld h (by decide +kernel) (fun b979 => ?_)
                                        show Go X (El X) 980 [some (.inr (.inr (60, 0))), some (.inr (.inr (0, 0))), some (.inr (.inr (30, 0))), some (.inl s.1)] [.inl (xsc (ix (s.1 + (1 : Int32)))), .inr (.inr (0, 0))] s.2 _
                                        refine go_blk h.1 (is := [.aload_n 0, .iload_n 3, .iconst 2, .iadd]) (pc' := 984) (ls' := [some (.inr (.inr (60, 0))), some (.inr (.inr (0, 0))), some (.inr (.inr (30, 0))), some (.inl s.1)]) (st' := [.inl (s.1 + (2 : Int32)), .inr (.inr (60, 0)), .inl (xsc (ix (s.1 + (1 : Int32)))), .inr (.inr (0, 0))]) (m' := s.2) (by decide +kernel) rfl ?_
                                        refine go_sld h (by decide +kernel) (fun b984 => ?_)
                                        show Go X (El X) 985 [some (.inr (.inr (60, 0))), some (.inr (.inr (0, 0))), some (.inr (.inr (30, 0))), some (.inl s.1)] [.inl (xsc (ix (s.1 + (2 : Int32)))), .inl (xsc (ix (s.1 + (1 : Int32)))), .inr (.inr (0, 0))] s.2 _
                                        refine go_blk h.1 (is := [.aload_n 0, .iload_n 3, .iconst 3, .iadd]) (pc' := 989) (ls' := [some (.inr (.inr (60, 0))), some (.inr (.inr (0, 0))), some (.inr (.inr (30, 0))), some (.inl s.1)]) (st' := [.inl (s.1 + (3 : Int32)), .inr (.inr (60, 0)), .inl (xsc (ix (s.1 + (2 : Int32)))), .inl (xsc (ix (s.1 + (1 : Int32)))), .inr (.inr (0, 0))]) (m' := s.2) (by decide +kernel) rfl ?_
                                        refine go_sld h (by decide +kernel) (fun b989 => ?_)
                                        show Go X (El X) 990 [some (.inr (.inr (60, 0))), some (.inr (.inr (0, 0))), some (.inr (.inr (30, 0))), some (.inl s.1)] [.inl (xsc (ix (s.1 + (3 : Int32)))), .inl (xsc (ix (s.1 + (2 : Int32)))), .inl (xsc (ix (s.1 + (1 : Int32)))), .inr (.inr (0, 0))] s.2 _
                                        refine go_callV h.1 (index := 87) (n := 3) (t := 0) (i := 0) (ci := 6) (nf := 7) (cz := (RX6, TX6, 7)) (as := [.inl (xsc (ix (s.1 + (1 : Int32)))), .inl (xsc (ix (s.1 + (2 : Int32)))), .inl (xsc (ix (s.1 + (3 : Int32))))]) (rest := []) (ctr_X6_sheet (xl X) (xA X) (xC X) (xI X) (xk X) (xsc (ix (s.1 + (1 : Int32)))) (xsc (ix (s.1 + (2 : Int32)))) (xsc (ix (s.1 + (3 : Int32)))) s.2) (by decide +kernel) rfl rfl wd_v_L_87 rfl (h.room (by first | decide | omega) (by decide)) h.cl (Nat.le_of_ble_eq_true rfl) puI_ok rfl (fun r990 m990 _ => ?_)
                                        show Go X (El X) 993 [some (.inr (.inr (60, 0))), some (.inr (.inr (0, 0))), some (.inr (.inr (30, 0))), some (.inl s.1)] [.inl r990] m990 _
                                        refine go_blk h.1 (is := [.aload_n 2, .aload_n 0, .iload_n 3, .iconst 1, .iadd]) (pc' := 998) (ls' := [some (.inr (.inr (60, 0))), some (.inr (.inr (0, 0))), some (.inr (.inr (30, 0))), some (.inl s.1)]) (st' := [.inl (s.1 + (1 : Int32)), .inr (.inr (60, 0)), .inr (.inr (30, 0)), .inl r990]) (m' := m990) (by decide +kernel) rfl ?_
                                        refine go_sld h (by decide +kernel) (fun b998 => ?_)
                                        show Go X (El X) 999 [some (.inr (.inr (60, 0))), some (.inr (.inr (0, 0))), some (.inr (.inr (30, 0))), some (.inl s.1)] [.inl (xsc (ix (s.1 + (1 : Int32)))), .inr (.inr (30, 0)), .inl r990] m990 _
                                        refine go_blk h.1 (is := [.aload_n 0, .iload_n 3, .iconst 2, .iadd]) (pc' := 1003) (ls' := [some (.inr (.inr (60, 0))), some (.inr (.inr (0, 0))), some (.inr (.inr (30, 0))), some (.inl s.1)]) (st' := [.inl (s.1 + (2 : Int32)), .inr (.inr (60, 0)), .inl (xsc (ix (s.1 + (1 : Int32)))), .inr (.inr (30, 0)), .inl r990]) (m' := m990) (by decide +kernel) rfl ?_
                                        refine go_sld h (by decide +kernel) (fun b1003 => ?_)
                                        show Go X (El X) 1004 [some (.inr (.inr (60, 0))), some (.inr (.inr (0, 0))), some (.inr (.inr (30, 0))), some (.inl s.1)] [.inl (xsc (ix (s.1 + (2 : Int32)))), .inl (xsc (ix (s.1 + (1 : Int32)))), .inr (.inr (30, 0)), .inl r990] m990 _
                                        refine go_blk h.1 (is := [.aload_n 0, .iload_n 3, .iconst 3, .iadd]) (pc' := 1008) (ls' := [some (.inr (.inr (60, 0))), some (.inr (.inr (0, 0))), some (.inr (.inr (30, 0))), some (.inl s.1)]) (st' := [.inl (s.1 + (3 : Int32)), .inr (.inr (60, 0)), .inl (xsc (ix (s.1 + (2 : Int32)))), .inl (xsc (ix (s.1 + (1 : Int32)))), .inr (.inr (30, 0)), .inl r990]) (m' := m990) (by decide +kernel) rfl ?_
                                        refine go_sld h (by decide +kernel) (fun b1008 => ?_)
                                        show Go X (El X) 1009 [some (.inr (.inr (60, 0))), some (.inr (.inr (0, 0))), some (.inr (.inr (30, 0))), some (.inl s.1)] [.inl (xsc (ix (s.1 + (3 : Int32)))), .inl (xsc (ix (s.1 + (2 : Int32)))), .inl (xsc (ix (s.1 + (1 : Int32)))), .inr (.inr (30, 0)), .inl r990] m990 _
                                        refine go_callV h.1 (index := 91) (n := 3) (t := 30) (i := 0) (ci := 7) (nf := 35) (cz := (RX7, TX7, 35)) (as := [.inl (xsc (ix (s.1 + (1 : Int32)))), .inl (xsc (ix (s.1 + (2 : Int32)))), .inl (xsc (ix (s.1 + (3 : Int32))))]) (rest := [.inl r990]) (ctr_X7_sheet (xl X) (xA X) (xC X) (xI X) (xk X) (xsc (ix (s.1 + (1 : Int32)))) (xsc (ix (s.1 + (2 : Int32)))) (xsc (ix (s.1 + (3 : Int32)))) m990) (by decide +kernel) rfl rfl wd_v_L_91 rfl (h.room (by first | decide | omega) (by decide)) h.cl (Nat.le_of_ble_eq_true rfl) puI_ok rfl (fun r1009 m1009 _ => ?_)
                                        show Go X (El X) 1012 [some (.inr (.inr (60, 0))), some (.inr (.inr (0, 0))), some (.inr (.inr (30, 0))), some (.inl s.1)] [.inl r1009, .inl r990] m1009 _
                                        refine go_icmpeq h.1 (off := 306) 1318 (by decide +kernel) (by decide) (fun c1012 => ?_) (fun c1012 => ?_)
                                        · exact g_L_law_j1318 L xsc h next exit s.1 m1009 hn hx
                                        · refine go_blk h.1 (is := [.iconst 0]) (pc' := 1016) (ls' := [some (.inr (.inr (60, 0))), some (.inr (.inr (0, 0))), some (.inr (.inr (30, 0))), some (.inl s.1)]) (st' := [.inl (0 : Int32)]) (m' := m1009) (by decide +kernel) rfl ?_
                                          exact go_law0
                                      · refine go_ite (fun w33_18 => ?_) (fun w33_18 => ?_)
                                        · refine go_tsIn h.1 (dflt := 1285) (lo := 0) (hi := 27) (offs := #[127, 180, 213, 236, 269, 292, 355, 430, 493, 526, 579, 642, 675, 698, 761, 814, 877, 941, 984, 1007, 1050, 1094, 1157, 1180, 1203, 1236, 1249, 1262]) (len := 127) (off := 984) (18 : Int32) 1017 w33_18 (by decide +kernel) (by decide) rfl (by decide) ?_
                                          refine go_blk h.1 (is := [.aload_n 1, .aload_n 0, .iload_n 3, .iconst 1, .iadd]) (pc' := 1022) (ls' := [some (.inr (.inr (60, 0))), some (.inr (.inr (0, 0))), some (.inr (.inr (30, 0))), some (.inl s.1)]) (st' := [.inl (s.1 + (1 : Int32)), .inr (.inr (60, 0)), .inr (.inr (0, 0))]) (m' := s.2) (by decide +kernel) rfl ?_
                                          refine go_sld h (by decide +kernel) (fun b1022 => ?_)
                                          show Go X (El X) 1023 [some (.inr (.inr (60, 0))), some (.inr (.inr (0, 0))), some (.inr (.inr (30, 0))), some (.inl s.1)] [.inl (xsc (ix (s.1 + (1 : Int32)))), .inr (.inr (0, 0))] s.2 _
                                          refine go_callV h.1 (index := 92) (n := 1) (t := 0) (i := 0) (ci := 6) (nf := 7) (cz := (RX6, TX6, 7)) (as := [.inl (xsc (ix (s.1 + (1 : Int32))))]) (rest := []) (ctr_X6_lose (xl X) (xA X) (xC X) (xI X) (xk X) (xsc (ix (s.1 + (1 : Int32)))) s.2) (by decide +kernel) rfl rfl wd_v_L_92 rfl (h.room (by first | decide | omega) (by decide)) h.cl (Nat.le_of_ble_eq_true rfl) puI_ok rfl (fun r1023 m1023 _ => ?_)
                                          show Go X (El X) 1026 [some (.inr (.inr (60, 0))), some (.inr (.inr (0, 0))), some (.inr (.inr (30, 0))), some (.inl s.1)] [.inl r1023] m1023 _
                                          refine go_blk h.1 (is := [.aload_n 2, .aload_n 0, .iload_n 3, .iconst 1, .iadd]) (pc' := 1031) (ls' := [some (.inr (.inr (60, 0))), some (.inr (.inr (0, 0))), some (.inr (.inr (30, 0))), some (.inl s.1)]) (st' := [.inl (s.1 + (1 : Int32)), .inr (.inr (60, 0)), .inr (.inr (30, 0)), .inl r1023]) (m' := m1023) (by decide +kernel) rfl ?_
                                          refine go_sld h (by decide +kernel) (fun b1031 => ?_)
                                          show Go X (El X) 1032 [some (.inr (.inr (60, 0))), some (.inr (.inr (0, 0))), some (.inr (.inr (30, 0))), some (.inl s.1)] [.inl (xsc (ix (s.1 + (1 : Int32)))), .inr (.inr (30, 0)), .inl r1023] m1023 _
                                          refine go_callV h.1 (index := 95) (n := 1) (t := 30) (i := 0) (ci := 7) (nf := 35) (cz := (RX7, TX7, 35)) (as := [.inl (xsc (ix (s.1 + (1 : Int32))))]) (rest := [.inl r1023]) (ctr_X7_lose (xl X) (xA X) (xC X) (xI X) (xk X) (xsc (ix (s.1 + (1 : Int32)))) m1023) (by decide +kernel) rfl rfl wd_v_L_95 rfl (h.room (by first | decide | omega) (by decide)) h.cl (Nat.le_of_ble_eq_true rfl) puI_ok rfl (fun r1032 m1032 _ => ?_)
                                          show Go X (El X) 1035 [some (.inr (.inr (60, 0))), some (.inr (.inr (0, 0))), some (.inr (.inr (30, 0))), some (.inl s.1)] [.inl r1032, .inl r1023] m1032 _
                                          refine go_icmpeq h.1 (off := 283) 1318 (by decide +kernel) (by decide) (fun c1035 => ?_) (fun c1035 => ?_)
                                          · exact g_L_law_j1318 L xsc h next exit s.1 m1032 hn hx
                                          · refine go_blk h.1 (is := [.iconst 0]) (pc' := 1039) (ls' := [some (.inr (.inr (60, 0))), some (.inr (.inr (0, 0))), some (.inr (.inr (30, 0))), some (.inl s.1)]) (st' := [.inl (0 : Int32)]) (m' := m1032) (by decide +kernel) rfl ?_
                                            exact go_law0
                                        · refine go_ite (fun w33_19 => ?_) (fun w33_19 => ?_)
                                          · refine go_tsIn h.1 (dflt := 1285) (lo := 0) (hi := 27) (offs := #[127, 180, 213, 236, 269, 292, 355, 430, 493, 526, 579, 642, 675, 698, 761, 814, 877, 941, 984, 1007, 1050, 1094, 1157, 1180, 1203, 1236, 1249, 1262]) (len := 127) (off := 1007) (19 : Int32) 1040 w33_19 (by decide +kernel) (by decide) rfl (by decide) ?_
                                            refine go_blk h.1 (is := [.aload_n 1, .aload_n 0, .iload_n 3, .iconst 1, .iadd]) (pc' := 1045) (ls' := [some (.inr (.inr (60, 0))), some (.inr (.inr (0, 0))), some (.inr (.inr (30, 0))), some (.inl s.1)]) (st' := [.inl (s.1 + (1 : Int32)), .inr (.inr (60, 0)), .inr (.inr (0, 0))]) (m' := s.2) (by decide +kernel) rfl ?_
                                            refine go_sld h (by decide +kernel) (fun b1045 => ?_)
                                            show Go X (El X) 1046 [some (.inr (.inr (60, 0))), some (.inr (.inr (0, 0))), some (.inr (.inr (30, 0))), some (.inl s.1)] [.inl (xsc (ix (s.1 + (1 : Int32)))), .inr (.inr (0, 0))] s.2 _
                                            refine go_blk h.1 (is := [.aload_n 0, .iload_n 3, .iconst 2, .iadd]) (pc' := 1050) (ls' := [some (.inr (.inr (60, 0))), some (.inr (.inr (0, 0))), some (.inr (.inr (30, 0))), some (.inl s.1)]) (st' := [.inl (s.1 + (2 : Int32)), .inr (.inr (60, 0)), .inl (xsc (ix (s.1 + (1 : Int32)))), .inr (.inr (0, 0))]) (m' := s.2) (by decide +kernel) rfl ?_
                                            refine go_sld h (by decide +kernel) (fun b1050 => ?_)
                                            show Go X (El X) 1051 [some (.inr (.inr (60, 0))), some (.inr (.inr (0, 0))), some (.inr (.inr (30, 0))), some (.inl s.1)] [.inl (xsc (ix (s.1 + (2 : Int32)))), .inl (xsc (ix (s.1 + (1 : Int32)))), .inr (.inr (0, 0))] s.2 _
                                            refine go_blk h.1 (is := [.aload_n 0, .iload_n 3, .iconst 3, .iadd]) (pc' := 1055) (ls' := [some (.inr (.inr (60, 0))), some (.inr (.inr (0, 0))), some (.inr (.inr (30, 0))), some (.inl s.1)]) (st' := [.inl (s.1 + (3 : Int32)), .inr (.inr (60, 0)), .inl (xsc (ix (s.1 + (2 : Int32)))), .inl (xsc (ix (s.1 + (1 : Int32)))), .inr (.inr (0, 0))]) (m' := s.2) (by decide +kernel) rfl ?_
                                            refine go_sld h (by decide +kernel) (fun b1055 => ?_)
                                            show Go X (El X) 1056 [some (.inr (.inr (60, 0))), some (.inr (.inr (0, 0))), some (.inr (.inr (30, 0))), some (.inl s.1)] [.inl (xsc (ix (s.1 + (3 : Int32)))), .inl (xsc (ix (s.1 + (2 : Int32)))), .inl (xsc (ix (s.1 + (1 : Int32)))), .inr (.inr (0, 0))] s.2 _
                                            refine go_callV h.1 (index := 96) (n := 3) (t := 0) (i := 0) (ci := 6) (nf := 7) (cz := (RX6, TX6, 7)) (as := [.inl (xsc (ix (s.1 + (1 : Int32)))), .inl (xsc (ix (s.1 + (2 : Int32)))), .inl (xsc (ix (s.1 + (3 : Int32))))]) (rest := []) (ctr_X6_put (xl X) (xA X) (xC X) (xI X) (xk X) (xsc (ix (s.1 + (1 : Int32)))) (xsc (ix (s.1 + (2 : Int32)))) (xsc (ix (s.1 + (3 : Int32)))) s.2) (by decide +kernel) rfl rfl wd_v_L_96 rfl (h.room (by first | decide | omega) (by decide)) h.cl (Nat.le_of_ble_eq_true rfl) puI_ok rfl (fun r1056 m1056 _ => ?_)
                                            show Go X (El X) 1059 [some (.inr (.inr (60, 0))), some (.inr (.inr (0, 0))), some (.inr (.inr (30, 0))), some (.inl s.1)] [.inl r1056] m1056 _
                                            refine go_blk h.1 (is := [.aload_n 2, .aload_n 0, .iload_n 3, .iconst 1, .iadd]) (pc' := 1064) (ls' := [some (.inr (.inr (60, 0))), some (.inr (.inr (0, 0))), some (.inr (.inr (30, 0))), some (.inl s.1)]) (st' := [.inl (s.1 + (1 : Int32)), .inr (.inr (60, 0)), .inr (.inr (30, 0)), .inl r1056]) (m' := m1056) (by decide +kernel) rfl ?_
                                            refine go_sld h (by decide +kernel) (fun b1064 => ?_)
                                            show Go X (El X) 1065 [some (.inr (.inr (60, 0))), some (.inr (.inr (0, 0))), some (.inr (.inr (30, 0))), some (.inl s.1)] [.inl (xsc (ix (s.1 + (1 : Int32)))), .inr (.inr (30, 0)), .inl r1056] m1056 _
                                            refine go_blk h.1 (is := [.aload_n 0, .iload_n 3, .iconst 2, .iadd]) (pc' := 1069) (ls' := [some (.inr (.inr (60, 0))), some (.inr (.inr (0, 0))), some (.inr (.inr (30, 0))), some (.inl s.1)]) (st' := [.inl (s.1 + (2 : Int32)), .inr (.inr (60, 0)), .inl (xsc (ix (s.1 + (1 : Int32)))), .inr (.inr (30, 0)), .inl r1056]) (m' := m1056) (by decide +kernel) rfl ?_
                                            refine go_sld h (by decide +kernel) (fun b1069 => ?_)
                                            show Go X (El X) 1070 [some (.inr (.inr (60, 0))), some (.inr (.inr (0, 0))), some (.inr (.inr (30, 0))), some (.inl s.1)] [.inl (xsc (ix (s.1 + (2 : Int32)))), .inl (xsc (ix (s.1 + (1 : Int32)))), .inr (.inr (30, 0)), .inl r1056] m1056 _
                                            refine go_blk h.1 (is := [.aload_n 0, .iload_n 3, .iconst 3, .iadd]) (pc' := 1074) (ls' := [some (.inr (.inr (60, 0))), some (.inr (.inr (0, 0))), some (.inr (.inr (30, 0))), some (.inl s.1)]) (st' := [.inl (s.1 + (3 : Int32)), .inr (.inr (60, 0)), .inl (xsc (ix (s.1 + (2 : Int32)))), .inl (xsc (ix (s.1 + (1 : Int32)))), .inr (.inr (30, 0)), .inl r1056]) (m' := m1056) (by decide +kernel) rfl ?_
                                            refine go_sld h (by decide +kernel) (fun b1074 => ?_)
                                            show Go X (El X) 1075 [some (.inr (.inr (60, 0))), some (.inr (.inr (0, 0))), some (.inr (.inr (30, 0))), some (.inl s.1)] [.inl (xsc (ix (s.1 + (3 : Int32)))), .inl (xsc (ix (s.1 + (2 : Int32)))), .inl (xsc (ix (s.1 + (1 : Int32)))), .inr (.inr (30, 0)), .inl r1056] m1056 _
                                            refine go_callV h.1 (index := 99) (n := 3) (t := 30) (i := 0) (ci := 7) (nf := 35) (cz := (RX7, TX7, 35)) (as := [.inl (xsc (ix (s.1 + (1 : Int32)))), .inl (xsc (ix (s.1 + (2 : Int32)))), .inl (xsc (ix (s.1 + (3 : Int32))))]) (rest := [.inl r1056]) (ctr_X7_put (xl X) (xA X) (xC X) (xI X) (xk X) (xsc (ix (s.1 + (1 : Int32)))) (xsc (ix (s.1 + (2 : Int32)))) (xsc (ix (s.1 + (3 : Int32)))) m1056) (by decide +kernel) rfl rfl wd_v_L_99 rfl (h.room (by first | decide | omega) (by decide)) h.cl (Nat.le_of_ble_eq_true rfl) puI_ok rfl (fun r1075 m1075 _ => ?_)
                                            show Go X (El X) 1078 [some (.inr (.inr (60, 0))), some (.inr (.inr (0, 0))), some (.inr (.inr (30, 0))), some (.inl s.1)] [.inl r1075, .inl r1056] m1075 _
                                            refine go_icmpeq h.1 (off := 240) 1318 (by decide +kernel) (by decide) (fun c1078 => ?_) (fun c1078 => ?_)
                                            · exact g_L_law_j1318 L xsc h next exit s.1 m1075 hn hx
                                            · refine go_blk h.1 (is := [.iconst 0]) (pc' := 1082) (ls' := [some (.inr (.inr (60, 0))), some (.inr (.inr (0, 0))), some (.inr (.inr (30, 0))), some (.inl s.1)]) (st' := [.inl (0 : Int32)]) (m' := m1075) (by decide +kernel) rfl ?_
                                              exact go_law0
                                          · refine go_ite (fun w33_20 => ?_) (fun w33_20 => ?_)
                                            · refine go_tsIn h.1 (dflt := 1285) (lo := 0) (hi := 27) (offs := #[127, 180, 213, 236, 269, 292, 355, 430, 493, 526, 579, 642, 675, 698, 761, 814, 877, 941, 984, 1007, 1050, 1094, 1157, 1180, 1203, 1236, 1249, 1262]) (len := 127) (off := 1050) (20 : Int32) 1083 w33_20 (by decide +kernel) (by decide) rfl (by decide) ?_
                                              refine go_blk h.1 (is := [.aload_n 1, .aload_n 0, .iload_n 3, .iconst 1, .iadd]) (pc' := 1088) (ls' := [some (.inr (.inr (60, 0))), some (.inr (.inr (0, 0))), some (.inr (.inr (30, 0))), some (.inl s.1)]) (st' := [.inl (s.1 + (1 : Int32)), .inr (.inr (60, 0)), .inr (.inr (0, 0))]) (m' := s.2) (by decide +kernel) rfl ?_
                                              refine go_sld h (by decide +kernel) (fun b1088 => ?_)
                                              show Go X (El X) 1089 [some (.inr (.inr (60, 0))), some (.inr (.inr (0, 0))), some (.inr (.inr (30, 0))), some (.inl s.1)] [.inl (xsc (ix (s.1 + (1 : Int32)))), .inr (.inr (0, 0))] s.2 _
                                              refine go_blk h.1 (is := [.aload_n 0, .iload_n 3, .iconst 2, .iadd]) (pc' := 1093) (ls' := [some (.inr (.inr (60, 0))), some (.inr (.inr (0, 0))), some (.inr (.inr (30, 0))), some (.inl s.1)]) (st' := [.inl (s.1 + (2 : Int32)), .inr (.inr (60, 0)), .inl (xsc (ix (s.1 + (1 : Int32)))), .inr (.inr (0, 0))]) (m' := s.2) (by decide +kernel) rfl ?_
                                              refine go_sld h (by decide +kernel) (fun b1093 => ?_)
                                              show Go X (El X) 1094 [some (.inr (.inr (60, 0))), some (.inr (.inr (0, 0))), some (.inr (.inr (30, 0))), some (.inl s.1)] [.inl (xsc (ix (s.1 + (2 : Int32)))), .inl (xsc (ix (s.1 + (1 : Int32)))), .inr (.inr (0, 0))] s.2 _
                                              refine go_blk h.1 (is := [.aload_n 0, .iload_n 3, .iconst 3, .iadd]) (pc' := 1098) (ls' := [some (.inr (.inr (60, 0))), some (.inr (.inr (0, 0))), some (.inr (.inr (30, 0))), some (.inl s.1)]) (st' := [.inl (s.1 + (3 : Int32)), .inr (.inr (60, 0)), .inl (xsc (ix (s.1 + (2 : Int32)))), .inl (xsc (ix (s.1 + (1 : Int32)))), .inr (.inr (0, 0))]) (m' := s.2) (by decide +kernel) rfl ?_
                                              refine go_sld h (by decide +kernel) (fun b1098 => ?_)
                                              show Go X (El X) 1099 [some (.inr (.inr (60, 0))), some (.inr (.inr (0, 0))), some (.inr (.inr (30, 0))), some (.inl s.1)] [.inl (xsc (ix (s.1 + (3 : Int32)))), .inl (xsc (ix (s.1 + (2 : Int32)))), .inl (xsc (ix (s.1 + (1 : Int32)))), .inr (.inr (0, 0))] s.2 _
                                              refine go_callV h.1 (index := 100) (n := 3) (t := 0) (i := 0) (ci := 6) (nf := 7) (cz := (RX6, TX6, 7)) (as := [.inl (xsc (ix (s.1 + (1 : Int32)))), .inl (xsc (ix (s.1 + (2 : Int32)))), .inl (xsc (ix (s.1 + (3 : Int32))))]) (rest := []) (ctr_X6_cell (xl X) (xA X) (xC X) (xI X) (xk X) (xsc (ix (s.1 + (1 : Int32)))) (xsc (ix (s.1 + (2 : Int32)))) (xsc (ix (s.1 + (3 : Int32)))) s.2) (by decide +kernel) rfl rfl wd_v_L_100 rfl (h.room (by first | decide | omega) (by decide)) h.cl (Nat.le_of_ble_eq_true rfl) puL_ok rfl (fun r1099 m1099 _ => ?_)
                                              show Go X (El X) 1102 [some (.inr (.inr (60, 0))), some (.inr (.inr (0, 0))), some (.inr (.inr (30, 0))), some (.inl s.1)] [.inr (.inl r1099)] m1099 _
                                              refine go_blk h.1 (is := [.aload_n 2, .aload_n 0, .iload_n 3, .iconst 1, .iadd]) (pc' := 1107) (ls' := [some (.inr (.inr (60, 0))), some (.inr (.inr (0, 0))), some (.inr (.inr (30, 0))), some (.inl s.1)]) (st' := [.inl (s.1 + (1 : Int32)), .inr (.inr (60, 0)), .inr (.inr (30, 0)), .inr (.inl r1099)]) (m' := m1099) (by decide +kernel) rfl ?_
                                              refine go_sld h (by decide +kernel) (fun b1107 => ?_)
                                              show Go X (El X) 1108 [some (.inr (.inr (60, 0))), some (.inr (.inr (0, 0))), some (.inr (.inr (30, 0))), some (.inl s.1)] [.inl (xsc (ix (s.1 + (1 : Int32)))), .inr (.inr (30, 0)), .inr (.inl r1099)] m1099 _
                                              refine go_blk h.1 (is := [.aload_n 0, .iload_n 3, .iconst 2, .iadd]) (pc' := 1112) (ls' := [some (.inr (.inr (60, 0))), some (.inr (.inr (0, 0))), some (.inr (.inr (30, 0))), some (.inl s.1)]) (st' := [.inl (s.1 + (2 : Int32)), .inr (.inr (60, 0)), .inl (xsc (ix (s.1 + (1 : Int32)))), .inr (.inr (30, 0)), .inr (.inl r1099)]) (m' := m1099) (by decide +kernel) rfl ?_
                                              refine go_sld h (by decide +kernel) (fun b1112 => ?_)
                                              show Go X (El X) 1113 [some (.inr (.inr (60, 0))), some (.inr (.inr (0, 0))), some (.inr (.inr (30, 0))), some (.inl s.1)] [.inl (xsc (ix (s.1 + (2 : Int32)))), .inl (xsc (ix (s.1 + (1 : Int32)))), .inr (.inr (30, 0)), .inr (.inl r1099)] m1099 _
                                              refine go_blk h.1 (is := [.aload_n 0, .iload_n 3, .iconst 3, .iadd]) (pc' := 1117) (ls' := [some (.inr (.inr (60, 0))), some (.inr (.inr (0, 0))), some (.inr (.inr (30, 0))), some (.inl s.1)]) (st' := [.inl (s.1 + (3 : Int32)), .inr (.inr (60, 0)), .inl (xsc (ix (s.1 + (2 : Int32)))), .inl (xsc (ix (s.1 + (1 : Int32)))), .inr (.inr (30, 0)), .inr (.inl r1099)]) (m' := m1099) (by decide +kernel) rfl ?_
                                              refine go_sld h (by decide +kernel) (fun b1117 => ?_)
                                              show Go X (El X) 1118 [some (.inr (.inr (60, 0))), some (.inr (.inr (0, 0))), some (.inr (.inr (30, 0))), some (.inl s.1)] [.inl (xsc (ix (s.1 + (3 : Int32)))), .inl (xsc (ix (s.1 + (2 : Int32)))), .inl (xsc (ix (s.1 + (1 : Int32)))), .inr (.inr (30, 0)), .inr (.inl r1099)] m1099 _
                                              refine go_callV h.1 (index := 104) (n := 3) (t := 30) (i := 0) (ci := 7) (nf := 35) (cz := (RX7, TX7, 35)) (as := [.inl (xsc (ix (s.1 + (1 : Int32)))), .inl (xsc (ix (s.1 + (2 : Int32)))), .inl (xsc (ix (s.1 + (3 : Int32))))]) (rest := [.inr (.inl r1099)]) (ctr_X7_cell (xl X) (xA X) (xC X) (xI X) (xk X) (xsc (ix (s.1 + (1 : Int32)))) (xsc (ix (s.1 + (2 : Int32)))) (xsc (ix (s.1 + (3 : Int32)))) m1099) (by decide +kernel) rfl rfl wd_v_L_104 rfl (h.room (by first | decide | omega) (by decide)) h.cl (Nat.le_of_ble_eq_true rfl) puL_ok rfl (fun r1118 m1118 _ => ?_)
                                              show Go X (El X) 1121 [some (.inr (.inr (60, 0))), some (.inr (.inr (0, 0))), some (.inr (.inr (30, 0))), some (.inl s.1)] [.inr (.inl r1118), .inr (.inl r1099)] m1118 _
                                              refine go_blk h.1 (is := [.lcmp]) (pc' := 1122) (ls' := [some (.inr (.inr (60, 0))), some (.inr (.inr (0, 0))), some (.inr (.inr (30, 0))), some (.inl s.1)]) (st' := [.inl (lg_cmp r1099 r1118)]) (m' := m1118) (by decide +kernel) rfl ?_
                                              refine go_ifeq h.1 (off := 196) 1318 (by decide +kernel) (by decide) (fun c1122 => ?_) (fun c1122 => ?_)
                                              · exact g_L_law_j1318 L xsc h next exit s.1 m1118 hn hx
                                              · refine go_blk h.1 (is := [.iconst 0]) (pc' := 1126) (ls' := [some (.inr (.inr (60, 0))), some (.inr (.inr (0, 0))), some (.inr (.inr (30, 0))), some (.inl s.1)]) (st' := [.inl (0 : Int32)]) (m' := m1118) (by decide +kernel) rfl ?_
                                                exact go_law0
                                            · refine go_ite (fun w33_21 => ?_) (fun w33_21 => ?_)
                                              · refine go_tsIn h.1 (dflt := 1285) (lo := 0) (hi := 27) (offs := #[127, 180, 213, 236, 269, 292, 355, 430, 493, 526, 579, 642, 675, 698, 761, 814, 877, 941, 984, 1007, 1050, 1094, 1157, 1180, 1203, 1236, 1249, 1262]) (len := 127) (off := 1094) (21 : Int32) 1127 w33_21 (by decide +kernel) (by decide) rfl (by decide) ?_
                                                refine go_blk h.1 (is := [.aload_n 1, .aload_n 0, .iload_n 3, .iconst 1, .iadd]) (pc' := 1132) (ls' := [some (.inr (.inr (60, 0))), some (.inr (.inr (0, 0))), some (.inr (.inr (30, 0))), some (.inl s.1)]) (st' := [.inl (s.1 + (1 : Int32)), .inr (.inr (60, 0)), .inr (.inr (0, 0))]) (m' := s.2) (by decide +kernel) rfl ?_
                                                refine go_sld h (by decide +kernel) (fun b1132 => ?_)
                                                show Go X (El X) 1133 [some (.inr (.inr (60, 0))), some (.inr (.inr (0, 0))), some (.inr (.inr (30, 0))), some (.inl s.1)] [.inl (xsc (ix (s.1 + (1 : Int32)))), .inr (.inr (0, 0))] s.2 _
                                                refine go_blk h.1 (is := [.aload_n 0, .iload_n 3, .iconst 2, .iadd]) (pc' := 1137) (ls' := [some (.inr (.inr (60, 0))), some (.inr (.inr (0, 0))), some (.inr (.inr (30, 0))), some (.inl s.1)]) (st' := [.inl (s.1 + (2 : Int32)), .inr (.inr (60, 0)), .inl (xsc (ix (s.1 + (1 : Int32)))), .inr (.inr (0, 0))]) (m' := s.2) (by decide +kernel) rfl ?_
                                                refine go_sld h (by decide +kernel) (fun b1137 => ?_)
                                                show Go X (El X) 1138 [some (.inr (.inr (60, 0))), some (.inr (.inr (0, 0))), some (.inr (.inr (30, 0))), some (.inl s.1)] [.inl (xsc (ix (s.1 + (2 : Int32)))), .inl (xsc (ix (s.1 + (1 : Int32)))), .inr (.inr (0, 0))] s.2 _
                                                refine go_blk h.1 (is := [.aload_n 0, .iload_n 3, .iconst 3, .iadd]) (pc' := 1142) (ls' := [some (.inr (.inr (60, 0))), some (.inr (.inr (0, 0))), some (.inr (.inr (30, 0))), some (.inl s.1)]) (st' := [.inl (s.1 + (3 : Int32)), .inr (.inr (60, 0)), .inl (xsc (ix (s.1 + (2 : Int32)))), .inl (xsc (ix (s.1 + (1 : Int32)))), .inr (.inr (0, 0))]) (m' := s.2) (by decide +kernel) rfl ?_
                                                refine go_sld h (by decide +kernel) (fun b1142 => ?_)
                                                show Go X (El X) 1143 [some (.inr (.inr (60, 0))), some (.inr (.inr (0, 0))), some (.inr (.inr (30, 0))), some (.inl s.1)] [.inl (xsc (ix (s.1 + (3 : Int32)))), .inl (xsc (ix (s.1 + (2 : Int32)))), .inl (xsc (ix (s.1 + (1 : Int32)))), .inr (.inr (0, 0))] s.2 _
                                                refine go_blk h.1 (is := [.aload_n 0, .iload_n 3, .iconst 4, .iadd]) (pc' := 1147) (ls' := [some (.inr (.inr (60, 0))), some (.inr (.inr (0, 0))), some (.inr (.inr (30, 0))), some (.inl s.1)]) (st' := [.inl (s.1 + (4 : Int32)), .inr (.inr (60, 0)), .inl (xsc (ix (s.1 + (3 : Int32)))), .inl (xsc (ix (s.1 + (2 : Int32)))), .inl (xsc (ix (s.1 + (1 : Int32)))), .inr (.inr (0, 0))]) (m' := s.2) (by decide +kernel) rfl ?_
                                                refine go_sld h (by decide +kernel) (fun b1147 => ?_)
                                                show Go X (El X) 1148 [some (.inr (.inr (60, 0))), some (.inr (.inr (0, 0))), some (.inr (.inr (30, 0))), some (.inl s.1)] [.inl (xsc (ix (s.1 + (4 : Int32)))), .inl (xsc (ix (s.1 + (3 : Int32)))), .inl (xsc (ix (s.1 + (2 : Int32)))), .inl (xsc (ix (s.1 + (1 : Int32)))), .inr (.inr (0, 0))] s.2 _
                                                refine go_blk h.1 (is := [.aload_n 0, .iload_n 3, .iconst 5, .iadd]) (pc' := 1152) (ls' := [some (.inr (.inr (60, 0))), some (.inr (.inr (0, 0))), some (.inr (.inr (30, 0))), some (.inl s.1)]) (st' := [.inl (s.1 + (5 : Int32)), .inr (.inr (60, 0)), .inl (xsc (ix (s.1 + (4 : Int32)))), .inl (xsc (ix (s.1 + (3 : Int32)))), .inl (xsc (ix (s.1 + (2 : Int32)))), .inl (xsc (ix (s.1 + (1 : Int32)))), .inr (.inr (0, 0))]) (m' := s.2) (by decide +kernel) rfl ?_
                                                refine go_sld h (by decide +kernel) (fun b1152 => ?_)
                                                show Go X (El X) 1153 [some (.inr (.inr (60, 0))), some (.inr (.inr (0, 0))), some (.inr (.inr (30, 0))), some (.inl s.1)] [.inl (xsc (ix (s.1 + (5 : Int32)))), .inl (xsc (ix (s.1 + (4 : Int32)))), .inl (xsc (ix (s.1 + (3 : Int32)))), .inl (xsc (ix (s.1 + (2 : Int32)))), .inl (xsc (ix (s.1 + (1 : Int32)))), .inr (.inr (0, 0))] s.2 _
                                                refine go_callV h.1 (index := 105) (n := 5) (t := 0) (i := 0) (ci := 6) (nf := 7) (cz := (RX6, TX6, 7)) (as := [.inl (xsc (ix (s.1 + (1 : Int32)))), .inl (xsc (ix (s.1 + (2 : Int32)))), .inl (xsc (ix (s.1 + (3 : Int32)))), .inl (xsc (ix (s.1 + (4 : Int32)))), .inl (xsc (ix (s.1 + (5 : Int32))))]) (rest := []) (ctr_X6_copy (xl X) (xA X) (xC X) (xI X) (xk X) (xsc (ix (s.1 + (1 : Int32)))) (xsc (ix (s.1 + (2 : Int32)))) (xsc (ix (s.1 + (3 : Int32)))) (xsc (ix (s.1 + (4 : Int32)))) (xsc (ix (s.1 + (5 : Int32)))) s.2) (by decide +kernel) rfl rfl wd_v_L_105 rfl (h.room (by first | decide | omega) (by decide)) h.cl (Nat.le_of_ble_eq_true rfl) puI_ok rfl (fun r1153 m1153 _ => ?_)
                                                show Go X (El X) 1156 [some (.inr (.inr (60, 0))), some (.inr (.inr (0, 0))), some (.inr (.inr (30, 0))), some (.inl s.1)] [.inl r1153] m1153 _
                                                refine go_blk h.1 (is := [.aload_n 2, .aload_n 0, .iload_n 3, .iconst 1, .iadd]) (pc' := 1161) (ls' := [some (.inr (.inr (60, 0))), some (.inr (.inr (0, 0))), some (.inr (.inr (30, 0))), some (.inl s.1)]) (st' := [.inl (s.1 + (1 : Int32)), .inr (.inr (60, 0)), .inr (.inr (30, 0)), .inl r1153]) (m' := m1153) (by decide +kernel) rfl ?_
                                                refine go_sld h (by decide +kernel) (fun b1161 => ?_)
                                                show Go X (El X) 1162 [some (.inr (.inr (60, 0))), some (.inr (.inr (0, 0))), some (.inr (.inr (30, 0))), some (.inl s.1)] [.inl (xsc (ix (s.1 + (1 : Int32)))), .inr (.inr (30, 0)), .inl r1153] m1153 _
                                                refine go_blk h.1 (is := [.aload_n 0, .iload_n 3, .iconst 2, .iadd]) (pc' := 1166) (ls' := [some (.inr (.inr (60, 0))), some (.inr (.inr (0, 0))), some (.inr (.inr (30, 0))), some (.inl s.1)]) (st' := [.inl (s.1 + (2 : Int32)), .inr (.inr (60, 0)), .inl (xsc (ix (s.1 + (1 : Int32)))), .inr (.inr (30, 0)), .inl r1153]) (m' := m1153) (by decide +kernel) rfl ?_
                                                refine go_sld h (by decide +kernel) (fun b1166 => ?_)
                                                show Go X (El X) 1167 [some (.inr (.inr (60, 0))), some (.inr (.inr (0, 0))), some (.inr (.inr (30, 0))), some (.inl s.1)] [.inl (xsc (ix (s.1 + (2 : Int32)))), .inl (xsc (ix (s.1 + (1 : Int32)))), .inr (.inr (30, 0)), .inl r1153] m1153 _
                                                refine go_blk h.1 (is := [.aload_n 0, .iload_n 3, .iconst 3, .iadd]) (pc' := 1171) (ls' := [some (.inr (.inr (60, 0))), some (.inr (.inr (0, 0))), some (.inr (.inr (30, 0))), some (.inl s.1)]) (st' := [.inl (s.1 + (3 : Int32)), .inr (.inr (60, 0)), .inl (xsc (ix (s.1 + (2 : Int32)))), .inl (xsc (ix (s.1 + (1 : Int32)))), .inr (.inr (30, 0)), .inl r1153]) (m' := m1153) (by decide +kernel) rfl ?_
                                                refine go_sld h (by decide +kernel) (fun b1171 => ?_)
                                                show Go X (El X) 1172 [some (.inr (.inr (60, 0))), some (.inr (.inr (0, 0))), some (.inr (.inr (30, 0))), some (.inl s.1)] [.inl (xsc (ix (s.1 + (3 : Int32)))), .inl (xsc (ix (s.1 + (2 : Int32)))), .inl (xsc (ix (s.1 + (1 : Int32)))), .inr (.inr (30, 0)), .inl r1153] m1153 _
                                                refine go_blk h.1 (is := [.aload_n 0, .iload_n 3, .iconst 4, .iadd]) (pc' := 1176) (ls' := [some (.inr (.inr (60, 0))), some (.inr (.inr (0, 0))), some (.inr (.inr (30, 0))), some (.inl s.1)]) (st' := [.inl (s.1 + (4 : Int32)), .inr (.inr (60, 0)), .inl (xsc (ix (s.1 + (3 : Int32)))), .inl (xsc (ix (s.1 + (2 : Int32)))), .inl (xsc (ix (s.1 + (1 : Int32)))), .inr (.inr (30, 0)), .inl r1153]) (m' := m1153) (by decide +kernel) rfl ?_
                                                refine go_sld h (by decide +kernel) (fun b1176 => ?_)
                                                show Go X (El X) 1177 [some (.inr (.inr (60, 0))), some (.inr (.inr (0, 0))), some (.inr (.inr (30, 0))), some (.inl s.1)] [.inl (xsc (ix (s.1 + (4 : Int32)))), .inl (xsc (ix (s.1 + (3 : Int32)))), .inl (xsc (ix (s.1 + (2 : Int32)))), .inl (xsc (ix (s.1 + (1 : Int32)))), .inr (.inr (30, 0)), .inl r1153] m1153 _
                                                refine go_blk h.1 (is := [.aload_n 0, .iload_n 3, .iconst 5, .iadd]) (pc' := 1181) (ls' := [some (.inr (.inr (60, 0))), some (.inr (.inr (0, 0))), some (.inr (.inr (30, 0))), some (.inl s.1)]) (st' := [.inl (s.1 + (5 : Int32)), .inr (.inr (60, 0)), .inl (xsc (ix (s.1 + (4 : Int32)))), .inl (xsc (ix (s.1 + (3 : Int32)))), .inl (xsc (ix (s.1 + (2 : Int32)))), .inl (xsc (ix (s.1 + (1 : Int32)))), .inr (.inr (30, 0)), .inl r1153]) (m' := m1153) (by decide +kernel) rfl ?_
                                                refine go_sld h (by decide +kernel) (fun b1181 => ?_)
                                                show Go X (El X) 1182 [some (.inr (.inr (60, 0))), some (.inr (.inr (0, 0))), some (.inr (.inr (30, 0))), some (.inl s.1)] [.inl (xsc (ix (s.1 + (5 : Int32)))), .inl (xsc (ix (s.1 + (4 : Int32)))), .inl (xsc (ix (s.1 + (3 : Int32)))), .inl (xsc (ix (s.1 + (2 : Int32)))), .inl (xsc (ix (s.1 + (1 : Int32)))), .inr (.inr (30, 0)), .inl r1153] m1153 _
                                                refine go_callV h.1 (index := 108) (n := 5) (t := 30) (i := 0) (ci := 7) (nf := 35) (cz := (RX7, TX7, 35)) (as := [.inl (xsc (ix (s.1 + (1 : Int32)))), .inl (xsc (ix (s.1 + (2 : Int32)))), .inl (xsc (ix (s.1 + (3 : Int32)))), .inl (xsc (ix (s.1 + (4 : Int32)))), .inl (xsc (ix (s.1 + (5 : Int32))))]) (rest := [.inl r1153]) (ctr_X7_copy (xl X) (xA X) (xC X) (xI X) (xk X) (xsc (ix (s.1 + (1 : Int32)))) (xsc (ix (s.1 + (2 : Int32)))) (xsc (ix (s.1 + (3 : Int32)))) (xsc (ix (s.1 + (4 : Int32)))) (xsc (ix (s.1 + (5 : Int32)))) m1153) (by decide +kernel) rfl rfl wd_v_L_108 rfl (h.room (by first | decide | omega) (by decide)) h.cl (Nat.le_of_ble_eq_true rfl) puI_ok rfl (fun r1182 m1182 _ => ?_)
                                                show Go X (El X) 1185 [some (.inr (.inr (60, 0))), some (.inr (.inr (0, 0))), some (.inr (.inr (30, 0))), some (.inl s.1)] [.inl r1182, .inl r1153] m1182 _
                                                refine go_icmpeq h.1 (off := 133) 1318 (by decide +kernel) (by decide) (fun c1185 => ?_) (fun c1185 => ?_)
                                                · exact g_L_law_j1318 L xsc h next exit s.1 m1182 hn hx
                                                · refine go_blk h.1 (is := [.iconst 0]) (pc' := 1189) (ls' := [some (.inr (.inr (60, 0))), some (.inr (.inr (0, 0))), some (.inr (.inr (30, 0))), some (.inl s.1)]) (st' := [.inl (0 : Int32)]) (m' := m1182) (by decide +kernel) rfl ?_
                                                  exact go_law0
                                              · refine go_ite (fun w33_22 => ?_) (fun w33_22 => ?_)
                                                · refine go_tsIn h.1 (dflt := 1285) (lo := 0) (hi := 27) (offs := #[127, 180, 213, 236, 269, 292, 355, 430, 493, 526, 579, 642, 675, 698, 761, 814, 877, 941, 984, 1007, 1050, 1094, 1157, 1180, 1203, 1236, 1249, 1262]) (len := 127) (off := 1157) (22 : Int32) 1190 w33_22 (by decide +kernel) (by decide) rfl (by decide) ?_
                                                  refine go_blk h.1 (is := [.aload_n 1, .aload_n 0, .iload_n 3, .iconst 1, .iadd]) (pc' := 1195) (ls' := [some (.inr (.inr (60, 0))), some (.inr (.inr (0, 0))), some (.inr (.inr (30, 0))), some (.inl s.1)]) (st' := [.inl (s.1 + (1 : Int32)), .inr (.inr (60, 0)), .inr (.inr (0, 0))]) (m' := s.2) (by decide +kernel) rfl ?_
                                                  refine go_sld h (by decide +kernel) (fun b1195 => ?_)
                                                  show Go X (El X) 1196 [some (.inr (.inr (60, 0))), some (.inr (.inr (0, 0))), some (.inr (.inr (30, 0))), some (.inl s.1)] [.inl (xsc (ix (s.1 + (1 : Int32)))), .inr (.inr (0, 0))] s.2 _
                                                  refine go_callV h.1 (index := 109) (n := 1) (t := 0) (i := 0) (ci := 6) (nf := 7) (cz := (RX6, TX6, 7)) (as := [.inl (xsc (ix (s.1 + (1 : Int32))))]) (rest := []) (ctr_X6_tell (xl X) (xA X) (xC X) (xI X) (xk X) (xsc (ix (s.1 + (1 : Int32)))) s.2) (by decide +kernel) rfl rfl wd_v_L_109 rfl (h.room (by first | decide | omega) (by decide)) h.cl (Nat.le_of_ble_eq_true rfl) puI_ok rfl (fun r1196 m1196 _ => ?_)
                                                  show Go X (El X) 1199 [some (.inr (.inr (60, 0))), some (.inr (.inr (0, 0))), some (.inr (.inr (30, 0))), some (.inl s.1)] [.inl r1196] m1196 _
                                                  refine go_blk h.1 (is := [.aload_n 2, .aload_n 0, .iload_n 3, .iconst 1, .iadd]) (pc' := 1204) (ls' := [some (.inr (.inr (60, 0))), some (.inr (.inr (0, 0))), some (.inr (.inr (30, 0))), some (.inl s.1)]) (st' := [.inl (s.1 + (1 : Int32)), .inr (.inr (60, 0)), .inr (.inr (30, 0)), .inl r1196]) (m' := m1196) (by decide +kernel) rfl ?_
                                                  refine go_sld h (by decide +kernel) (fun b1204 => ?_)
                                                  show Go X (El X) 1205 [some (.inr (.inr (60, 0))), some (.inr (.inr (0, 0))), some (.inr (.inr (30, 0))), some (.inl s.1)] [.inl (xsc (ix (s.1 + (1 : Int32)))), .inr (.inr (30, 0)), .inl r1196] m1196 _
                                                  refine go_callV h.1 (index := 112) (n := 1) (t := 30) (i := 0) (ci := 7) (nf := 35) (cz := (RX7, TX7, 35)) (as := [.inl (xsc (ix (s.1 + (1 : Int32))))]) (rest := [.inl r1196]) (ctr_X7_tell (xl X) (xA X) (xC X) (xI X) (xk X) (xsc (ix (s.1 + (1 : Int32)))) m1196) (by decide +kernel) rfl rfl wd_v_L_112 rfl (h.room (by first | decide | omega) (by decide)) h.cl (Nat.le_of_ble_eq_true rfl) puI_ok rfl (fun r1205 m1205 _ => ?_)
                                                  show Go X (El X) 1208 [some (.inr (.inr (60, 0))), some (.inr (.inr (0, 0))), some (.inr (.inr (30, 0))), some (.inl s.1)] [.inl r1205, .inl r1196] m1205 _
                                                  refine go_icmpeq h.1 (off := 110) 1318 (by decide +kernel) (by decide) (fun c1208 => ?_) (fun c1208 => ?_)
                                                  · exact g_L_law_j1318 L xsc h next exit s.1 m1205 hn hx
                                                  · refine go_blk h.1 (is := [.iconst 0]) (pc' := 1212) (ls' := [some (.inr (.inr (60, 0))), some (.inr (.inr (0, 0))), some (.inr (.inr (30, 0))), some (.inl s.1)]) (st' := [.inl (0 : Int32)]) (m' := m1205) (by decide +kernel) rfl ?_
                                                    exact go_law0
                                                · refine go_ite (fun w33_23 => ?_) (fun w33_23 => ?_)
                                                  · refine go_tsIn h.1 (dflt := 1285) (lo := 0) (hi := 27) (offs := #[127, 180, 213, 236, 269, 292, 355, 430, 493, 526, 579, 642, 675, 698, 761, 814, 877, 941, 984, 1007, 1050, 1094, 1157, 1180, 1203, 1236, 1249, 1262]) (len := 127) (off := 1180) (23 : Int32) 1213 w33_23 (by decide +kernel) (by decide) rfl (by decide) ?_
                                                    refine go_blk h.1 (is := [.aload_n 1, .aload_n 0, .iload_n 3, .iconst 1, .iadd]) (pc' := 1218) (ls' := [some (.inr (.inr (60, 0))), some (.inr (.inr (0, 0))), some (.inr (.inr (30, 0))), some (.inl s.1)]) (st' := [.inl (s.1 + (1 : Int32)), .inr (.inr (60, 0)), .inr (.inr (0, 0))]) (m' := s.2) (by decide +kernel) rfl ?_
                                                    refine go_sld h (by decide +kernel) (fun b1218 => ?_)
                                                    show Go X (El X) 1219 [some (.inr (.inr (60, 0))), some (.inr (.inr (0, 0))), some (.inr (.inr (30, 0))), some (.inl s.1)] [.inl (xsc (ix (s.1 + (1 : Int32)))), .inr (.inr (0, 0))] s.2 _
                                                    refine go_callV h.1 (index := 113) (n := 1) (t := 0) (i := 0) (ci := 6) (nf := 7) (cz := (RX6, TX6, 7)) (as := [.inl (xsc (ix (s.1 + (1 : Int32))))]) (rest := []) (ctr_X6_let (xl X) (xA X) (xC X) (xI X) (xk X) (xsc (ix (s.1 + (1 : Int32)))) s.2) (by decide +kernel) rfl rfl wd_v_L_113 rfl (h.room (by first | decide | omega) (by decide)) h.cl (Nat.le_of_ble_eq_true rfl) puI_ok rfl (fun r1219 m1219 _ => ?_)
                                                    show Go X (El X) 1222 [some (.inr (.inr (60, 0))), some (.inr (.inr (0, 0))), some (.inr (.inr (30, 0))), some (.inl s.1)] [.inl r1219] m1219 _
                                                    refine go_blk h.1 (is := [.aload_n 2, .aload_n 0, .iload_n 3, .iconst 1, .iadd]) (pc' := 1227) (ls' := [some (.inr (.inr (60, 0))), some (.inr (.inr (0, 0))), some (.inr (.inr (30, 0))), some (.inl s.1)]) (st' := [.inl (s.1 + (1 : Int32)), .inr (.inr (60, 0)), .inr (.inr (30, 0)), .inl r1219]) (m' := m1219) (by decide +kernel) rfl ?_
                                                    refine go_sld h (by decide +kernel) (fun b1227 => ?_)
                                                    show Go X (El X) 1228 [some (.inr (.inr (60, 0))), some (.inr (.inr (0, 0))), some (.inr (.inr (30, 0))), some (.inl s.1)] [.inl (xsc (ix (s.1 + (1 : Int32)))), .inr (.inr (30, 0)), .inl r1219] m1219 _
                                                    refine go_callV h.1 (index := 116) (n := 1) (t := 30) (i := 0) (ci := 7) (nf := 35) (cz := (RX7, TX7, 35)) (as := [.inl (xsc (ix (s.1 + (1 : Int32))))]) (rest := [.inl r1219]) (ctr_X7_let (xl X) (xA X) (xC X) (xI X) (xk X) (xsc (ix (s.1 + (1 : Int32)))) m1219) (by decide +kernel) rfl rfl wd_v_L_116 rfl (h.room (by first | decide | omega) (by decide)) h.cl (Nat.le_of_ble_eq_true rfl) puI_ok rfl (fun r1228 m1228 _ => ?_)
                                                    show Go X (El X) 1231 [some (.inr (.inr (60, 0))), some (.inr (.inr (0, 0))), some (.inr (.inr (30, 0))), some (.inl s.1)] [.inl r1228, .inl r1219] m1228 _
                                                    refine go_icmpeq h.1 (off := 87) 1318 (by decide +kernel) (by decide) (fun c1231 => ?_) (fun c1231 => ?_)
                                                    · exact g_L_law_j1318 L xsc h next exit s.1 m1228 hn hx
                                                    · refine go_blk h.1 (is := [.iconst 0]) (pc' := 1235) (ls' := [some (.inr (.inr (60, 0))), some (.inr (.inr (0, 0))), some (.inr (.inr (30, 0))), some (.inl s.1)]) (st' := [.inl (0 : Int32)]) (m' := m1228) (by decide +kernel) rfl ?_
                                                      exact go_law0
                                                  · refine go_ite (fun w33_24 => ?_) (fun w33_24 => ?_)
                                                    · refine go_tsIn h.1 (dflt := 1285) (lo := 0) (hi := 27) (offs := #[127, 180, 213, 236, 269, 292, 355, 430, 493, 526, 579, 642, 675, 698, 761, 814, 877, 941, 984, 1007, 1050, 1094, 1157, 1180, 1203, 1236, 1249, 1262]) (len := 127) (off := 1203) (24 : Int32) 1236 w33_24 (by decide +kernel) (by decide) rfl (by decide) ?_
                                                      refine go_blk h.1 (is := [.aload_n 1, .aload_n 0, .iload_n 3, .iconst 1, .iadd]) (pc' := 1241) (ls' := [some (.inr (.inr (60, 0))), some (.inr (.inr (0, 0))), some (.inr (.inr (30, 0))), some (.inl s.1)]) (st' := [.inl (s.1 + (1 : Int32)), .inr (.inr (60, 0)), .inr (.inr (0, 0))]) (m' := s.2) (by decide +kernel) rfl ?_
                                                      refine go_sld h (by decide +kernel) (fun b1241 => ?_)
                                                      show Go X (El X) 1242 [some (.inr (.inr (60, 0))), some (.inr (.inr (0, 0))), some (.inr (.inr (30, 0))), some (.inl s.1)] [.inl (xsc (ix (s.1 + (1 : Int32)))), .inr (.inr (0, 0))] s.2 _
                                                      refine go_blk h.1 (is := [.aload_n 0, .iload_n 3, .iconst 2, .iadd]) (pc' := 1246) (ls' := [some (.inr (.inr (60, 0))), some (.inr (.inr (0, 0))), some (.inr (.inr (30, 0))), some (.inl s.1)]) (st' := [.inl (s.1 + (2 : Int32)), .inr (.inr (60, 0)), .inl (xsc (ix (s.1 + (1 : Int32)))), .inr (.inr (0, 0))]) (m' := s.2) (by decide +kernel) rfl ?_
                                                      refine go_sld h (by decide +kernel) (fun b1246 => ?_)
                                                      show Go X (El X) 1247 [some (.inr (.inr (60, 0))), some (.inr (.inr (0, 0))), some (.inr (.inr (30, 0))), some (.inl s.1)] [.inl (xsc (ix (s.1 + (2 : Int32)))), .inl (xsc (ix (s.1 + (1 : Int32)))), .inr (.inr (0, 0))] s.2 _
                                                      refine go_callV h.1 (index := 117) (n := 2) (t := 0) (i := 0) (ci := 6) (nf := 7) (cz := (RX6, TX6, 7)) (as := [.inl (xsc (ix (s.1 + (1 : Int32)))), .inl (xsc (ix (s.1 + (2 : Int32))))]) (rest := []) (ctr_X6_as (xl X) (xA X) (xC X) (xI X) (xk X) (xsc (ix (s.1 + (1 : Int32)))) (xsc (ix (s.1 + (2 : Int32)))) s.2) (by decide +kernel) rfl rfl wd_v_L_117 rfl (h.room (by first | decide | omega) (by decide)) h.cl (Nat.le_of_ble_eq_true rfl) puI_ok rfl (fun r1247 m1247 _ => ?_)
                                                      show Go X (El X) 1250 [some (.inr (.inr (60, 0))), some (.inr (.inr (0, 0))), some (.inr (.inr (30, 0))), some (.inl s.1)] [.inl r1247] m1247 _
                                                      refine go_blk h.1 (is := [.aload_n 2, .aload_n 0, .iload_n 3, .iconst 1, .iadd]) (pc' := 1255) (ls' := [some (.inr (.inr (60, 0))), some (.inr (.inr (0, 0))), some (.inr (.inr (30, 0))), some (.inl s.1)]) (st' := [.inl (s.1 + (1 : Int32)), .inr (.inr (60, 0)), .inr (.inr (30, 0)), .inl r1247]) (m' := m1247) (by decide +kernel) rfl ?_
                                                      refine go_sld h (by decide +kernel) (fun b1255 => ?_)
                                                      show Go X (El X) 1256 [some (.inr (.inr (60, 0))), some (.inr (.inr (0, 0))), some (.inr (.inr (30, 0))), some (.inl s.1)] [.inl (xsc (ix (s.1 + (1 : Int32)))), .inr (.inr (30, 0)), .inl r1247] m1247 _
                                                      refine go_blk h.1 (is := [.aload_n 0, .iload_n 3, .iconst 2, .iadd]) (pc' := 1260) (ls' := [some (.inr (.inr (60, 0))), some (.inr (.inr (0, 0))), some (.inr (.inr (30, 0))), some (.inl s.1)]) (st' := [.inl (s.1 + (2 : Int32)), .inr (.inr (60, 0)), .inl (xsc (ix (s.1 + (1 : Int32)))), .inr (.inr (30, 0)), .inl r1247]) (m' := m1247) (by decide +kernel) rfl ?_
                                                      refine go_sld h (by decide +kernel) (fun b1260 => ?_)
                                                      show Go X (El X) 1261 [some (.inr (.inr (60, 0))), some (.inr (.inr (0, 0))), some (.inr (.inr (30, 0))), some (.inl s.1)] [.inl (xsc (ix (s.1 + (2 : Int32)))), .inl (xsc (ix (s.1 + (1 : Int32)))), .inr (.inr (30, 0)), .inl r1247] m1247 _
                                                      refine go_callV h.1 (index := 120) (n := 2) (t := 30) (i := 0) (ci := 7) (nf := 35) (cz := (RX7, TX7, 35)) (as := [.inl (xsc (ix (s.1 + (1 : Int32)))), .inl (xsc (ix (s.1 + (2 : Int32))))]) (rest := [.inl r1247]) (ctr_X7_as (xl X) (xA X) (xC X) (xI X) (xk X) (xsc (ix (s.1 + (1 : Int32)))) (xsc (ix (s.1 + (2 : Int32)))) m1247) (by decide +kernel) rfl rfl wd_v_L_120 rfl (h.room (by first | decide | omega) (by decide)) h.cl (Nat.le_of_ble_eq_true rfl) puI_ok rfl (fun r1261 m1261 _ => ?_)
                                                      show Go X (El X) 1264 [some (.inr (.inr (60, 0))), some (.inr (.inr (0, 0))), some (.inr (.inr (30, 0))), some (.inl s.1)] [.inl r1261, .inl r1247] m1261 _
                                                      refine go_icmpeq h.1 (off := 54) 1318 (by decide +kernel) (by decide) (fun c1264 => ?_) (fun c1264 => ?_)
                                                      · exact g_L_law_j1318 L xsc h next exit s.1 m1261 hn hx
                                                      · refine go_blk h.1 (is := [.iconst 0]) (pc' := 1268) (ls' := [some (.inr (.inr (60, 0))), some (.inr (.inr (0, 0))), some (.inr (.inr (30, 0))), some (.inl s.1)]) (st' := [.inl (0 : Int32)]) (m' := m1261) (by decide +kernel) rfl ?_
                                                        exact go_law0
                                                    · refine go_ite (fun w33_25 => ?_) (fun w33_25 => ?_)
                                                      · refine go_tsIn h.1 (dflt := 1285) (lo := 0) (hi := 27) (offs := #[127, 180, 213, 236, 269, 292, 355, 430, 493, 526, 579, 642, 675, 698, 761, 814, 877, 941, 984, 1007, 1050, 1094, 1157, 1180, 1203, 1236, 1249, 1262]) (len := 127) (off := 1236) (25 : Int32) 1269 w33_25 (by decide +kernel) (by decide) rfl (by decide) ?_
                                                        refine go_blk h.1 (is := [.aload_n 1]) (pc' := 1270) (ls' := [some (.inr (.inr (60, 0))), some (.inr (.inr (0, 0))), some (.inr (.inr (30, 0))), some (.inl s.1)]) (st' := [.inr (.inr (0, 0))]) (m' := s.2) (by decide +kernel) rfl ?_
                                                        refine go_callV h.1 (index := 121) (n := 0) (t := 0) (i := 0) (ci := 6) (nf := 7) (cz := (RX6, TX6, 7)) (as := []) (rest := []) (ctr_X6_trace (xl X) (xA X) (xC X) (xI X) (xk X) s.2) (by decide +kernel) rfl rfl wd_v_L_121 rfl (h.room (by first | decide | omega) (by decide)) h.cl (Nat.le_of_ble_eq_true rfl) puI_ok rfl (fun r1270 m1270 _ => ?_)
                                                        show Go X (El X) 1273 [some (.inr (.inr (60, 0))), some (.inr (.inr (0, 0))), some (.inr (.inr (30, 0))), some (.inl s.1)] [.inl r1270] m1270 _
                                                        refine go_blk h.1 (is := [.aload_n 2]) (pc' := 1274) (ls' := [some (.inr (.inr (60, 0))), some (.inr (.inr (0, 0))), some (.inr (.inr (30, 0))), some (.inl s.1)]) (st' := [.inr (.inr (30, 0)), .inl r1270]) (m' := m1270) (by decide +kernel) rfl ?_
                                                        refine go_callV h.1 (index := 125) (n := 0) (t := 30) (i := 0) (ci := 7) (nf := 35) (cz := (RX7, TX7, 35)) (as := []) (rest := [.inl r1270]) (ctr_X7_trace (xl X) (xA X) (xC X) (xI X) (xk X) m1270) (by decide +kernel) rfl rfl wd_v_L_125 rfl (h.room (by first | decide | omega) (by decide)) h.cl (Nat.le_of_ble_eq_true rfl) puI_ok rfl (fun r1274 m1274 _ => ?_)
                                                        show Go X (El X) 1277 [some (.inr (.inr (60, 0))), some (.inr (.inr (0, 0))), some (.inr (.inr (30, 0))), some (.inl s.1)] [.inl r1274, .inl r1270] m1274 _
                                                        refine go_icmpeq h.1 (off := 41) 1318 (by decide +kernel) (by decide) (fun c1277 => ?_) (fun c1277 => ?_)
                                                        · exact g_L_law_j1318 L xsc h next exit s.1 m1274 hn hx
                                                        · refine go_blk h.1 (is := [.iconst 0]) (pc' := 1281) (ls' := [some (.inr (.inr (60, 0))), some (.inr (.inr (0, 0))), some (.inr (.inr (30, 0))), some (.inl s.1)]) (st' := [.inl (0 : Int32)]) (m' := m1274) (by decide +kernel) rfl ?_
                                                          exact go_law0
                                                      · refine go_ite (fun w33_26 => ?_) (fun w33_26 => ?_)
                                                        · refine go_tsIn h.1 (dflt := 1285) (lo := 0) (hi := 27) (offs := #[127, 180, 213, 236, 269, 292, 355, 430, 493, 526, 579, 642, 675, 698, 761, 814, 877, 941, 984, 1007, 1050, 1094, 1157, 1180, 1203, 1236, 1249, 1262]) (len := 127) (off := 1249) (26 : Int32) 1282 w33_26 (by decide +kernel) (by decide) rfl (by decide) ?_
                                                          refine go_blk h.1 (is := [.aload_n 1]) (pc' := 1283) (ls' := [some (.inr (.inr (60, 0))), some (.inr (.inr (0, 0))), some (.inr (.inr (30, 0))), some (.inl s.1)]) (st' := [.inr (.inr (0, 0))]) (m' := s.2) (by decide +kernel) rfl ?_
                                                          refine go_callV h.1 (index := 126) (n := 0) (t := 0) (i := 0) (ci := 6) (nf := 7) (cz := (RX6, TX6, 7)) (as := []) (rest := []) (ctr_X6_fault (xl X) (xA X) (xC X) (xI X) (xk X) s.2) (by decide +kernel) rfl rfl wd_v_L_126 rfl (h.room (by first | decide | omega) (by decide)) h.cl (Nat.le_of_ble_eq_true rfl) puI_ok rfl (fun r1283 m1283 _ => ?_)
                                                          show Go X (El X) 1286 [some (.inr (.inr (60, 0))), some (.inr (.inr (0, 0))), some (.inr (.inr (30, 0))), some (.inl s.1)] [.inl r1283] m1283 _
                                                          refine go_blk h.1 (is := [.aload_n 2]) (pc' := 1287) (ls' := [some (.inr (.inr (60, 0))), some (.inr (.inr (0, 0))), some (.inr (.inr (30, 0))), some (.inl s.1)]) (st' := [.inr (.inr (30, 0)), .inl r1283]) (m' := m1283) (by decide +kernel) rfl ?_
                                                          refine go_callV h.1 (index := 129) (n := 0) (t := 30) (i := 0) (ci := 7) (nf := 35) (cz := (RX7, TX7, 35)) (as := []) (rest := [.inl r1283]) (ctr_X7_fault (xl X) (xA X) (xC X) (xI X) (xk X) m1283) (by decide +kernel) rfl rfl wd_v_L_129 rfl (h.room (by first | decide | omega) (by decide)) h.cl (Nat.le_of_ble_eq_true rfl) puI_ok rfl (fun r1287 m1287 _ => ?_)
                                                          show Go X (El X) 1290 [some (.inr (.inr (60, 0))), some (.inr (.inr (0, 0))), some (.inr (.inr (30, 0))), some (.inl s.1)] [.inl r1287, .inl r1283] m1287 _
                                                          refine go_icmpeq h.1 (off := 28) 1318 (by decide +kernel) (by decide) (fun c1290 => ?_) (fun c1290 => ?_)
                                                          · exact g_L_law_j1318 L xsc h next exit s.1 m1287 hn hx
                                                          · refine go_blk h.1 (is := [.iconst 0]) (pc' := 1294) (ls' := [some (.inr (.inr (60, 0))), some (.inr (.inr (0, 0))), some (.inr (.inr (30, 0))), some (.inl s.1)]) (st' := [.inl (0 : Int32)]) (m' := m1287) (by decide +kernel) rfl ?_
                                                            exact go_law0
                                                        · refine go_ite (fun w33_27 => ?_) (fun w33_27 => ?_)
                                                          · refine go_tsIn h.1 (dflt := 1285) (lo := 0) (hi := 27) (offs := #[127, 180, 213, 236, 269, 292, 355, 430, 493, 526, 579, 642, 675, 698, 761, 814, 877, 941, 984, 1007, 1050, 1094, 1157, 1180, 1203, 1236, 1249, 1262]) (len := 127) (off := 1262) (27 : Int32) 1295 w33_27 (by decide +kernel) (by decide) rfl (by decide) ?_
                                                            refine go_blk h.1 (is := [.aload_n 1, .aload_n 0, .iload_n 3, .iconst 1, .iadd]) (pc' := 1300) (ls' := [some (.inr (.inr (60, 0))), some (.inr (.inr (0, 0))), some (.inr (.inr (30, 0))), some (.inl s.1)]) (st' := [.inl (s.1 + (1 : Int32)), .inr (.inr (60, 0)), .inr (.inr (0, 0))]) (m' := s.2) (by decide +kernel) rfl ?_
                                                            refine go_sld h (by decide +kernel) (fun b1300 => ?_)
                                                            show Go X (El X) 1301 [some (.inr (.inr (60, 0))), some (.inr (.inr (0, 0))), some (.inr (.inr (30, 0))), some (.inl s.1)] [.inl (xsc (ix (s.1 + (1 : Int32)))), .inr (.inr (0, 0))] s.2 _
                                                            refine go_callV h.1 (index := 130) (n := 1) (t := 0) (i := 0) (ci := 6) (nf := 7) (cz := (RX6, TX6, 7)) (as := [.inl (xsc (ix (s.1 + (1 : Int32))))]) (rest := []) (ctr_X6_many (xl X) (xA X) (xC X) (xI X) (xk X) (xsc (ix (s.1 + (1 : Int32)))) s.2) (by decide +kernel) rfl rfl wd_v_L_130 rfl (h.room (by first | decide | omega) (by decide)) h.cl (Nat.le_of_ble_eq_true rfl) puI_ok rfl (fun r1301 m1301 _ => ?_)
                                                            show Go X (El X) 1304 [some (.inr (.inr (60, 0))), some (.inr (.inr (0, 0))), some (.inr (.inr (30, 0))), some (.inl s.1)] [.inl r1301] m1301 _
                                                            refine go_blk h.1 (is := [.aload_n 2, .aload_n 0, .iload_n 3, .iconst 1, .iadd]) (pc' := 1309) (ls' := [some (.inr (.inr (60, 0))), some (.inr (.inr (0, 0))), some (.inr (.inr (30, 0))), some (.inl s.1)]) (st' := [.inl (s.1 + (1 : Int32)), .inr (.inr (60, 0)), .inr (.inr (30, 0)), .inl r1301]) (m' := m1301) (by decide +kernel) rfl ?_
                                                            refine go_sld h (by decide +kernel) (fun b1309 => ?_)
                                                            show Go X (El X) 1310 [some (.inr (.inr (60, 0))), some (.inr (.inr (0, 0))), some (.inr (.inr (30, 0))), some (.inl s.1)] [.inl (xsc (ix (s.1 + (1 : Int32)))), .inr (.inr (30, 0)), .inl r1301] m1301 _
                                                            refine go_callV h.1 (index := 133) (n := 1) (t := 30) (i := 0) (ci := 7) (nf := 35) (cz := (RX7, TX7, 35)) (as := [.inl (xsc (ix (s.1 + (1 : Int32))))]) (rest := [.inl r1301]) (ctr_X7_many (xl X) (xA X) (xC X) (xI X) (xk X) (xsc (ix (s.1 + (1 : Int32)))) m1301) (by decide +kernel) rfl rfl wd_v_L_133 rfl (h.room (by first | decide | omega) (by decide)) h.cl (Nat.le_of_ble_eq_true rfl) puI_ok rfl (fun r1310 m1310 _ => ?_)
                                                            show Go X (El X) 1313 [some (.inr (.inr (60, 0))), some (.inr (.inr (0, 0))), some (.inr (.inr (30, 0))), some (.inl s.1)] [.inl r1310, .inl r1301] m1310 _
                                                            refine go_icmpeq h.1 (off := 5) 1318 (by decide +kernel) (by decide) (fun c1313 => ?_) (fun c1313 => ?_)
                                                            · exact g_L_law_j1318 L xsc h next exit s.1 m1310 hn hx
                                                            · refine go_blk h.1 (is := [.iconst 0]) (pc' := 1317) (ls' := [some (.inr (.inr (60, 0))), some (.inr (.inr (0, 0))), some (.inr (.inr (30, 0))), some (.inl s.1)]) (st' := [.inl (0 : Int32)]) (m' := m1310) (by decide +kernel) rfl ?_
                                                              exact go_law0
                                                          · refine go_tsOut h.1 (dflt := 1285) (lo := 0) (hi := 27) (offs := #[127, 180, 213, 236, 269, 292, 355, 430, 493, 526, 579, 642, 675, 698, 761, 814, 877, 941, 984, 1007, 1050, 1094, 1157, 1180, 1203, 1236, 1249, 1262]) (len := 127) 1318 (by decide +kernel) (sw_out (n := 28) (by decide) ((lt_s (lt_s (lt_s (lt_s (lt_s (lt_s (lt_s (lt_s (lt_s (lt_s (lt_s (lt_s (lt_s (lt_s (lt_s (lt_s (lt_s (lt_s (lt_s (lt_s (lt_s (lt_s (lt_s (lt_s (lt_s (lt_s (lt_s (lt_s lt_0 w33_0) w33_1) w33_2) w33_3) w33_4) w33_5) w33_6) w33_7) w33_8) w33_9) w33_10) w33_11) w33_12) w33_13) w33_14) w33_15) w33_16) w33_17) w33_18) w33_19) w33_20) w33_21) w33_22) w33_23) w33_24) w33_25) w33_26) w33_27) : ∀ j : Nat, j < 28 → ¬ ((xsc (ix s.1)) &&& (31 : Int32)) = Int32.ofInt (0 + (j : Int)))) (by decide) ?_
                                                            exact g_L_law_j1318 L xsc h next exit s.1 s.2 hn hx

def f_L_law (L : Nat) (xsc : Nat → Int32) (m : Mem) : Option (Int32 × Mem) :=
  lpk (f_L_law_b18 L xsc) fuelN ((0 : Int32), m) (fun t18 =>
    some ((1 : Int32), t18))
theorem g_L_law {X : XT} (L : Nat) (xsc : Nat → Int32) (h : MW X L xsc) (m : Mem) : Go X (El X) 16 [some (.inr (.inr (60, 0))), some (.inr (.inr (0, 0))), some (.inr (.inr (30, 0))), none] [] m (f_L_law L xsc m) := by
  unfold f_L_law
  refine go_blk h.1 (is := [.iconst 0, .istore_n 3]) (pc' := 18) (ls' := [some (.inr (.inr (60, 0))), some (.inr (.inr (0, 0))), some (.inr (.inr (30, 0))), some (.inl (0 : Int32))]) (st' := []) (m' := m) (by decide +kernel) rfl ?_
  refine go_lp1 (hd := fun (y3 : Int32) (n : Mem) o => Go X (El X) 18 [some (.inr (.inr (60, 0))), some (.inr (.inr (0, 0))), some (.inr (.inr (30, 0))), some (.inl y3)] [] n o) (fun _ _ => go_none) (fun y3 n nx_ hn_ => g_L_law_b18 L xsc h nx_ _ hn_ (fun z_18 o0_18 o1_18 o2_18 o3_18 => ?_) (y3, n)) fuelN (0 : Int32) m
  refine go_blk h.1 (is := [.iconst 1]) (pc' := 1325) (ls' := [o0_18, o1_18, o2_18, o3_18]) (st' := [.inl (1 : Int32)]) (m' := z_18) (by decide +kernel) rfl ?_
  exact go_law1 h (by decide +kernel)
