/-! SEGMENTS of the law and of its own methods, with their facts (laid by wip/whole/gen/gen.py) -/
abbrev ML_addExaminer : MD := (RL, cL_addExaminer, 3, (some .int), [(0, 8, 11, 13)])
theorem fX4_addExaminer : MFv yX4_addExaminer MX4_addExaminer 0 := ⟨rfl, ⟨by decide, rfl⟩, gT 652 (by decide +kernel) (by decide +kernel), gT 48 (by decide +kernel) (by decide +kernel), by decide +kernel, by decide, gT 650 (by decide +kernel) (by decide +kernel), gT 651 (by decide +kernel) (by decide +kernel)⟩
theorem ml_L_7 : Cond.methodLink RL 7 yX4_addExaminer ∈ gTbl := gT 649 (by decide +kernel) (by decide +kernel)
theorem cl_L_13 : Cond.classLink RL 13 "java/lang/IllegalStateException" ∈ gTbl := gT 648 (by decide +kernel) (by decide +kernel)
abbrev ML_addPupil : MD := (RL, cL_addPupil, 3, (some .int), [(0, 8, 11, 13)])
theorem fX4_addPupil : MFv yX4_addPupil MX4_addPupil 0 := ⟨rfl, ⟨by decide, rfl⟩, gT 691 (by decide +kernel) (by decide +kernel), gT 48 (by decide +kernel) (by decide +kernel), by decide +kernel, by decide, gT 689 (by decide +kernel) (by decide +kernel), gT 690 (by decide +kernel) (by decide +kernel)⟩
theorem ml_L_15 : Cond.methodLink RL 15 yX4_addPupil ∈ gTbl := gT 688 (by decide +kernel) (by decide +kernel)
abbrev ML_append : MD := (RL, cL_append, 4, (some .int), [(0, 9, 12, 31), (0, 9, 15, 13)])
theorem fX4_append : MFv yX4_append MX4_append 1 := ⟨rfl, ⟨by decide, rfl⟩, gT 792 (by decide +kernel) (by decide +kernel), gT 48 (by decide +kernel) (by decide +kernel), by decide +kernel, by decide, gT 790 (by decide +kernel) (by decide +kernel), gT 791 (by decide +kernel) (by decide +kernel)⟩
theorem ml_L_43 : Cond.methodLink RL 43 yX4_append ∈ gTbl := gT 789 (by decide +kernel) (by decide +kernel)
theorem cl_L_31 : Cond.classLink RL 31 "java/lang/IllegalArgumentException" ∈ gTbl := gT 733 (by decide +kernel) (by decide +kernel)
abbrev ML_ask : MD := (RL, cL_ask, 4, (some .int), [(0, 9, 12, 22), (0, 9, 15, 13)])
theorem fX4_ask : MFv yX4_ask MX4_ask 1 := ⟨rfl, ⟨by decide, rfl⟩, gT 704 (by decide +kernel) (by decide +kernel), gT 48 (by decide +kernel) (by decide +kernel), by decide +kernel, by decide, gT 702 (by decide +kernel) (by decide +kernel), gT 703 (by decide +kernel) (by decide +kernel)⟩
theorem ml_L_18 : Cond.methodLink RL 18 yX4_ask ∈ gTbl := gT 701 (by decide +kernel) (by decide +kernel)
theorem cl_L_22 : Cond.classLink RL 22 "java/lang/IndexOutOfBoundsException" ∈ gTbl := gT 700 (by decide +kernel) (by decide +kernel)
abbrev ML_cancel : MD := (RL, cL_cancel, 5, (some .int), [(0, 10, 13, 22), (0, 10, 17, 31)])
theorem fX4_cancel : MFv yX4_cancel MX4_cancel 2 := ⟨rfl, ⟨by decide, rfl⟩, gT 737 (by decide +kernel) (by decide +kernel), gT 48 (by decide +kernel) (by decide +kernel), by decide +kernel, by decide, gT 735 (by decide +kernel) (by decide +kernel), gT 736 (by decide +kernel) (by decide +kernel)⟩
theorem ml_L_27 : Cond.methodLink RL 27 yX4_cancel ∈ gTbl := gT 734 (by decide +kernel) (by decide +kernel)
abbrev ML_couldHave : MD := (RL, cL_couldHave, 4, (some .int), [(0, 9, 12, 31)])
theorem ml_L_77 : Cond.methodLink RL 77 yX4_couldHave ∈ gTbl := gT 865 (by decide +kernel) (by decide +kernel)
abbrev ML_count : MD := (RL, cL_count, 4, (some .int), [(0, 9, 12, 31)])
theorem ml_L_62 : Cond.methodLink RL 62 yX4_count ∈ gTbl := gT 842 (by decide +kernel) (by decide +kernel)
abbrev ML_earliest : MD := (RL, cL_earliest, 5, (some .int), [(0, 10, 13, 22), (0, 10, 17, 31)])
theorem ml_L_68 : Cond.methodLink RL 68 yX4_earliest ∈ gTbl := gT 853 (by decide +kernel) (by decide +kernel)
abbrev ML_examiner : MD := (RL, cL_examiner, 5, (some .int), [(0, 10, 13, 22), (0, 10, 17, 31)])
theorem ml_L_55 : Cond.methodLink RL 55 yX4_examiner ∈ gTbl := gT 834 (by decide +kernel) (by decide +kernel)
abbrev ML_ifCancelled : MD := (RL, cL_ifCancelled, 6, (some .int), [(0, 12, 15, 22), (0, 12, 19, 31)])
theorem ml_L_71 : Cond.methodLink RL 71 yX4_ifCancelled ∈ gTbl := gT 857 (by decide +kernel) (by decide +kernel)
abbrev ML_ifTested : MD := (RL, cL_ifTested, 5, (some .int), [(0, 10, 13, 22)])
theorem ml_L_74 : Cond.methodLink RL 74 yX4_ifTested ∈ gTbl := gT 861 (by decide +kernel) (by decide +kernel)
abbrev ML_next : MD := (RL, cL_next, 3, (some .int), [(0, 8, 11, 13)])
theorem fX4_next : MFv yX4_next MX4_next 0 := ⟨rfl, ⟨by decide, rfl⟩, gT 761 (by decide +kernel) (by decide +kernel), gT 48 (by decide +kernel) (by decide +kernel), by decide +kernel, by decide, gT 759 (by decide +kernel) (by decide +kernel), gT 760 (by decide +kernel) (by decide +kernel)⟩
theorem ml_L_37 : Cond.methodLink RL 37 yX4_next ∈ gTbl := gT 758 (by decide +kernel) (by decide +kernel)
abbrev ML_pupil : MD := (RL, cL_pupil, 5, (some .int), [(0, 10, 13, 22), (0, 10, 17, 31)])
theorem ml_L_52 : Cond.methodLink RL 52 yX4_pupil ∈ gTbl := gT 830 (by decide +kernel) (by decide +kernel)
abbrev ML_quit : MD := (RL, cL_quit, 4, (some .int), [(0, 9, 12, 22), (0, 9, 15, 13)])
theorem fX4_quit : MFv yX4_quit MX4_quit 1 := ⟨rfl, ⟨by decide, rfl⟩, gT 720 (by decide +kernel) (by decide +kernel), gT 48 (by decide +kernel) (by decide +kernel), by decide +kernel, by decide, gT 718 (by decide +kernel) (by decide +kernel), gT 719 (by decide +kernel) (by decide +kernel)⟩
theorem ml_L_24 : Cond.methodLink RL 24 yX4_quit ∈ gTbl := gT 717 (by decide +kernel) (by decide +kernel)
abbrev ML_run : MD := (RL, cL_run, 3, (some .int), [(0, 8, 11, 31)])
theorem fX4_run : MFv yX4_run MX4_run 0 := ⟨rfl, ⟨by decide, rfl⟩, gT 809 (by decide +kernel) (by decide +kernel), gT 48 (by decide +kernel) (by decide +kernel), by decide +kernel, by decide, gT 807 (by decide +kernel) (by decide +kernel), gT 808 (by decide +kernel) (by decide +kernel)⟩
theorem ml_L_46 : Cond.methodLink RL 46 yX4_run ∈ gTbl := gT 806 (by decide +kernel) (by decide +kernel)
abbrev ML_set : MD := (RL, cL_set, 5, (some .int), [(0, 10, 13, 22), (0, 10, 17, 31)])
theorem fX4_set : MFv yX4_set MX4_set 2 := ⟨rfl, ⟨by decide, rfl⟩, gT 777 (by decide +kernel) (by decide +kernel), gT 48 (by decide +kernel) (by decide +kernel), by decide +kernel, by decide, gT 775 (by decide +kernel) (by decide +kernel), gT 776 (by decide +kernel) (by decide +kernel)⟩
theorem ml_L_40 : Cond.methodLink RL 40 yX4_set ∈ gTbl := gT 774 (by decide +kernel) (by decide +kernel)
abbrev ML_setting : MD := (RL, cL_setting, 4, (some .int), [(0, 9, 12, 22)])
theorem fX4_setting : MFv yX4_setting MX4_setting 1 := ⟨rfl, ⟨by decide, rfl⟩, gT 849 (by decide +kernel) (by decide +kernel), gT 48 (by decide +kernel) (by decide +kernel), by decide +kernel, by decide, gT 847 (by decide +kernel) (by decide +kernel), gT 848 (by decide +kernel) (by decide +kernel)⟩
theorem ml_L_65 : Cond.methodLink RL 65 yX4_setting ∈ gTbl := gT 846 (by decide +kernel) (by decide +kernel)
abbrev ML_slot : MD := (RL, cL_slot, 6, (some .int), [(0, 12, 15, 22), (0, 12, 19, 31)])
theorem ml_L_58 : Cond.methodLink RL 58 yX4_slot ∈ gTbl := gT 838 (by decide +kernel) (by decide +kernel)
abbrev ML_test : MD := (RL, cL_test, 5, (some .int), [(0, 10, 13, 22), (0, 10, 17, 13)])
theorem fX4_test : MFv yX4_test MX4_test 2 := ⟨rfl, ⟨by decide, rfl⟩, gT 744 (by decide +kernel) (by decide +kernel), gT 48 (by decide +kernel) (by decide +kernel), by decide +kernel, by decide, gT 742 (by decide +kernel) (by decide +kernel), gT 743 (by decide +kernel) (by decide +kernel)⟩
theorem ml_L_33 : Cond.methodLink RL 33 yX4_test ∈ gTbl := gT 741 (by decide +kernel) (by decide +kernel)
abbrev ML_undo : MD := (RL, cL_undo, 3, (some .int), [(0, 8, 11, 13)])
theorem fX4_undo : MFv yX4_undo MX4_undo 0 := ⟨rfl, ⟨by decide, rfl⟩, gT 825 (by decide +kernel) (by decide +kernel), gT 48 (by decide +kernel) (by decide +kernel), by decide +kernel, by decide, gT 823 (by decide +kernel) (by decide +kernel), gT 824 (by decide +kernel) (by decide +kernel)⟩
theorem ml_L_49 : Cond.methodLink RL 49 yX4_undo ∈ gTbl := gT 822 (by decide +kernel) (by decide +kernel)
abbrev ML_law : MD := (RL, cL_law, 9, (some .boolean), [])
theorem fL_addExaminer : MFh yL_addExaminer ML_addExaminer 2 := ⟨rfl, by decide, gT 647 (by decide +kernel) (by decide +kernel), gT 47 (by decide +kernel) (by decide +kernel), by decide +kernel, by decide, gT 646 (by decide +kernel) (by decide +kernel)⟩
theorem ml_L_84 : Cond.methodLink RL 84 yL_addExaminer ∈ gTbl := gT 645 (by decide +kernel) (by decide +kernel)
theorem fX5_addExaminer : MFv yX5_addExaminer MX5_addExaminer 0 := ⟨rfl, ⟨by decide, rfl⟩, gT 929 (by decide +kernel) (by decide +kernel), gT 55 (by decide +kernel) (by decide +kernel), by decide +kernel, by decide, gT 927 (by decide +kernel) (by decide +kernel), gT 928 (by decide +kernel) (by decide +kernel)⟩
theorem ml_L_89 : Cond.methodLink RL 89 yX5_addExaminer ∈ gTbl := gT 926 (by decide +kernel) (by decide +kernel)
theorem fX5_thrown : MFv yX5_thrown MX5_thrown 0 := ⟨rfl, ⟨by decide, rfl⟩, gT 925 (by decide +kernel) (by decide +kernel), gT 55 (by decide +kernel) (by decide +kernel), by decide +kernel, by decide, gT 923 (by decide +kernel) (by decide +kernel), gT 924 (by decide +kernel) (by decide +kernel)⟩
theorem ml_L_90 : Cond.methodLink RL 90 yX5_thrown ∈ gTbl := gT 922 (by decide +kernel) (by decide +kernel)
theorem fL_addPupil : MFh yL_addPupil ML_addPupil 2 := ⟨rfl, by decide, gT 687 (by decide +kernel) (by decide +kernel), gT 47 (by decide +kernel) (by decide +kernel), by decide +kernel, by decide, gT 686 (by decide +kernel) (by decide +kernel)⟩
theorem ml_L_93 : Cond.methodLink RL 93 yL_addPupil ∈ gTbl := gT 685 (by decide +kernel) (by decide +kernel)
theorem fX5_addPupil : MFv yX5_addPupil MX5_addPupil 0 := ⟨rfl, ⟨by decide, rfl⟩, gT 982 (by decide +kernel) (by decide +kernel), gT 55 (by decide +kernel) (by decide +kernel), by decide +kernel, by decide, gT 980 (by decide +kernel) (by decide +kernel), gT 981 (by decide +kernel) (by decide +kernel)⟩
theorem ml_L_95 : Cond.methodLink RL 95 yX5_addPupil ∈ gTbl := gT 979 (by decide +kernel) (by decide +kernel)
theorem fL_ask : MFh yL_ask ML_ask 3 := ⟨rfl, by decide, gT 699 (by decide +kernel) (by decide +kernel), gT 47 (by decide +kernel) (by decide +kernel), by decide +kernel, by decide, gT 698 (by decide +kernel) (by decide +kernel)⟩
theorem ml_L_96 : Cond.methodLink RL 96 yL_ask ∈ gTbl := gT 697 (by decide +kernel) (by decide +kernel)
theorem fX5_ask : MFv yX5_ask MX5_ask 1 := ⟨rfl, ⟨by decide, rfl⟩, gT 986 (by decide +kernel) (by decide +kernel), gT 55 (by decide +kernel) (by decide +kernel), by decide +kernel, by decide, gT 984 (by decide +kernel) (by decide +kernel), gT 985 (by decide +kernel) (by decide +kernel)⟩
theorem ml_L_99 : Cond.methodLink RL 99 yX5_ask ∈ gTbl := gT 983 (by decide +kernel) (by decide +kernel)
theorem fL_quit : MFh yL_quit ML_quit 3 := ⟨rfl, by decide, gT 716 (by decide +kernel) (by decide +kernel), gT 47 (by decide +kernel) (by decide +kernel), by decide +kernel, by decide, gT 715 (by decide +kernel) (by decide +kernel)⟩
theorem ml_L_100 : Cond.methodLink RL 100 yL_quit ∈ gTbl := gT 714 (by decide +kernel) (by decide +kernel)
theorem fX5_quit : MFv yX5_quit MX5_quit 1 := ⟨rfl, ⟨by decide, rfl⟩, gT 1013 (by decide +kernel) (by decide +kernel), gT 55 (by decide +kernel) (by decide +kernel), by decide +kernel, by decide, gT 1011 (by decide +kernel) (by decide +kernel), gT 1012 (by decide +kernel) (by decide +kernel)⟩
theorem ml_L_102 : Cond.methodLink RL 102 yX5_quit ∈ gTbl := gT 1010 (by decide +kernel) (by decide +kernel)
theorem fL_cancel : MFh yL_cancel ML_cancel 4 := ⟨rfl, by decide, gT 732 (by decide +kernel) (by decide +kernel), gT 47 (by decide +kernel) (by decide +kernel), by decide +kernel, by decide, gT 731 (by decide +kernel) (by decide +kernel)⟩
theorem ml_L_103 : Cond.methodLink RL 103 yL_cancel ∈ gTbl := gT 730 (by decide +kernel) (by decide +kernel)
theorem fX5_cancel : MFv yX5_cancel MX5_cancel 2 := ⟨rfl, ⟨by decide, rfl⟩, gT 1025 (by decide +kernel) (by decide +kernel), gT 55 (by decide +kernel) (by decide +kernel), by decide +kernel, by decide, gT 1023 (by decide +kernel) (by decide +kernel), gT 1024 (by decide +kernel) (by decide +kernel)⟩
theorem ml_L_106 : Cond.methodLink RL 106 yX5_cancel ∈ gTbl := gT 1022 (by decide +kernel) (by decide +kernel)
theorem fL_test : MFh yL_test ML_test 4 := ⟨rfl, by decide, gT 740 (by decide +kernel) (by decide +kernel), gT 47 (by decide +kernel) (by decide +kernel), by decide +kernel, by decide, gT 739 (by decide +kernel) (by decide +kernel)⟩
theorem ml_L_107 : Cond.methodLink RL 107 yL_test ∈ gTbl := gT 738 (by decide +kernel) (by decide +kernel)
theorem fX5_test : MFv yX5_test MX5_test 2 := ⟨rfl, ⟨by decide, rfl⟩, gT 1041 (by decide +kernel) (by decide +kernel), gT 55 (by decide +kernel) (by decide +kernel), by decide +kernel, by decide, gT 1039 (by decide +kernel) (by decide +kernel), gT 1040 (by decide +kernel) (by decide +kernel)⟩
theorem ml_L_110 : Cond.methodLink RL 110 yX5_test ∈ gTbl := gT 1038 (by decide +kernel) (by decide +kernel)
theorem fL_next : MFh yL_next ML_next 2 := ⟨rfl, by decide, gT 757 (by decide +kernel) (by decide +kernel), gT 47 (by decide +kernel) (by decide +kernel), by decide +kernel, by decide, gT 756 (by decide +kernel) (by decide +kernel)⟩
theorem ml_L_111 : Cond.methodLink RL 111 yL_next ∈ gTbl := gT 755 (by decide +kernel) (by decide +kernel)
theorem fX5_next : MFv yX5_next MX5_next 0 := ⟨rfl, ⟨by decide, rfl⟩, gT 1057 (by decide +kernel) (by decide +kernel), gT 55 (by decide +kernel) (by decide +kernel), by decide +kernel, by decide, gT 1055 (by decide +kernel) (by decide +kernel), gT 1056 (by decide +kernel) (by decide +kernel)⟩
theorem ml_L_113 : Cond.methodLink RL 113 yX5_next ∈ gTbl := gT 1054 (by decide +kernel) (by decide +kernel)
theorem fL_set : MFh yL_set ML_set 4 := ⟨rfl, by decide, gT 773 (by decide +kernel) (by decide +kernel), gT 47 (by decide +kernel) (by decide +kernel), by decide +kernel, by decide, gT 772 (by decide +kernel) (by decide +kernel)⟩
theorem ml_L_114 : Cond.methodLink RL 114 yL_set ∈ gTbl := gT 771 (by decide +kernel) (by decide +kernel)
theorem fX5_set : MFv yX5_set MX5_set 2 := ⟨rfl, ⟨by decide, rfl⟩, gT 1069 (by decide +kernel) (by decide +kernel), gT 55 (by decide +kernel) (by decide +kernel), by decide +kernel, by decide, gT 1067 (by decide +kernel) (by decide +kernel), gT 1068 (by decide +kernel) (by decide +kernel)⟩
theorem ml_L_116 : Cond.methodLink RL 116 yX5_set ∈ gTbl := gT 1066 (by decide +kernel) (by decide +kernel)
theorem fL_append : MFh yL_append ML_append 3 := ⟨rfl, by decide, gT 788 (by decide +kernel) (by decide +kernel), gT 47 (by decide +kernel) (by decide +kernel), by decide +kernel, by decide, gT 787 (by decide +kernel) (by decide +kernel)⟩
theorem ml_L_117 : Cond.methodLink RL 117 yL_append ∈ gTbl := gT 786 (by decide +kernel) (by decide +kernel)
theorem fX5_append : MFv yX5_append MX5_append 1 := ⟨rfl, ⟨by decide, rfl⟩, gT 1073 (by decide +kernel) (by decide +kernel), gT 55 (by decide +kernel) (by decide +kernel), by decide +kernel, by decide, gT 1071 (by decide +kernel) (by decide +kernel), gT 1072 (by decide +kernel) (by decide +kernel)⟩
theorem ml_L_119 : Cond.methodLink RL 119 yX5_append ∈ gTbl := gT 1070 (by decide +kernel) (by decide +kernel)
theorem fX4_clearBuffer : MFv yX4_clearBuffer MX4_clearBuffer 0 := ⟨rfl, ⟨by decide, rfl⟩, gT 244 (by decide +kernel) (by decide +kernel), gT 48 (by decide +kernel) (by decide +kernel), by decide +kernel, by decide, gT 242 (by decide +kernel) (by decide +kernel), gT 243 (by decide +kernel) (by decide +kernel)⟩
theorem ml_L_120 : Cond.methodLink RL 120 yX4_clearBuffer ∈ gTbl := gT 241 (by decide +kernel) (by decide +kernel)
theorem fX5_clearBuffer : MFv yX5_clearBuffer MX5_clearBuffer 0 := ⟨rfl, ⟨by decide, rfl⟩, gT 1077 (by decide +kernel) (by decide +kernel), gT 55 (by decide +kernel) (by decide +kernel), by decide +kernel, by decide, gT 1075 (by decide +kernel) (by decide +kernel), gT 1076 (by decide +kernel) (by decide +kernel)⟩
theorem ml_L_123 : Cond.methodLink RL 123 yX5_clearBuffer ∈ gTbl := gT 1074 (by decide +kernel) (by decide +kernel)
theorem fX4_firstError : MFv yX4_firstError MX4_firstError 0 := ⟨rfl, ⟨by decide, rfl⟩, gT 248 (by decide +kernel) (by decide +kernel), gT 48 (by decide +kernel) (by decide +kernel), by decide +kernel, by decide, gT 246 (by decide +kernel) (by decide +kernel), gT 247 (by decide +kernel) (by decide +kernel)⟩
theorem ml_L_124 : Cond.methodLink RL 124 yX4_firstError ∈ gTbl := gT 245 (by decide +kernel) (by decide +kernel)
theorem fX5_firstError : MFv yX5_firstError MX5_firstError 0 := ⟨rfl, ⟨by decide, rfl⟩, gT 1081 (by decide +kernel) (by decide +kernel), gT 55 (by decide +kernel) (by decide +kernel), by decide +kernel, by decide, gT 1079 (by decide +kernel) (by decide +kernel), gT 1080 (by decide +kernel) (by decide +kernel)⟩
theorem ml_L_127 : Cond.methodLink RL 127 yX5_firstError ∈ gTbl := gT 1078 (by decide +kernel) (by decide +kernel)
theorem fL_run : MFh yL_run ML_run 2 := ⟨rfl, by decide, gT 805 (by decide +kernel) (by decide +kernel), gT 47 (by decide +kernel) (by decide +kernel), by decide +kernel, by decide, gT 804 (by decide +kernel) (by decide +kernel)⟩
theorem ml_L_128 : Cond.methodLink RL 128 yL_run ∈ gTbl := gT 803 (by decide +kernel) (by decide +kernel)
theorem fX5_run : MFv yX5_run MX5_run 0 := ⟨rfl, ⟨by decide, rfl⟩, gT 1110 (by decide +kernel) (by decide +kernel), gT 55 (by decide +kernel) (by decide +kernel), by decide +kernel, by decide, gT 1108 (by decide +kernel) (by decide +kernel), gT 1109 (by decide +kernel) (by decide +kernel)⟩
theorem ml_L_130 : Cond.methodLink RL 130 yX5_run ∈ gTbl := gT 1107 (by decide +kernel) (by decide +kernel)
theorem fL_undo : MFh yL_undo ML_undo 2 := ⟨rfl, by decide, gT 821 (by decide +kernel) (by decide +kernel), gT 47 (by decide +kernel) (by decide +kernel), by decide +kernel, by decide, gT 820 (by decide +kernel) (by decide +kernel)⟩
theorem ml_L_131 : Cond.methodLink RL 131 yL_undo ∈ gTbl := gT 819 (by decide +kernel) (by decide +kernel)
theorem fX5_undo : MFv yX5_undo MX5_undo 0 := ⟨rfl, ⟨by decide, rfl⟩, gT 1114 (by decide +kernel) (by decide +kernel), gT 55 (by decide +kernel) (by decide +kernel), by decide +kernel, by decide, gT 1112 (by decide +kernel) (by decide +kernel), gT 1113 (by decide +kernel) (by decide +kernel)⟩
theorem ml_L_133 : Cond.methodLink RL 133 yX5_undo ∈ gTbl := gT 1111 (by decide +kernel) (by decide +kernel)
theorem fL_pupil : MFh yL_pupil ML_pupil 4 := ⟨rfl, by decide, gT 829 (by decide +kernel) (by decide +kernel), gT 47 (by decide +kernel) (by decide +kernel), by decide +kernel, by decide, gT 828 (by decide +kernel) (by decide +kernel)⟩
theorem ml_L_134 : Cond.methodLink RL 134 yL_pupil ∈ gTbl := gT 827 (by decide +kernel) (by decide +kernel)
theorem fX5_pupil : MFv yX5_pupil MX5_pupil 2 := ⟨rfl, ⟨by decide, rfl⟩, gT 1118 (by decide +kernel) (by decide +kernel), gT 55 (by decide +kernel) (by decide +kernel), by decide +kernel, by decide, gT 1116 (by decide +kernel) (by decide +kernel), gT 1117 (by decide +kernel) (by decide +kernel)⟩
theorem ml_L_136 : Cond.methodLink RL 136 yX5_pupil ∈ gTbl := gT 1115 (by decide +kernel) (by decide +kernel)
theorem fL_examiner : MFh yL_examiner ML_examiner 4 := ⟨rfl, by decide, gT 833 (by decide +kernel) (by decide +kernel), gT 47 (by decide +kernel) (by decide +kernel), by decide +kernel, by decide, gT 832 (by decide +kernel) (by decide +kernel)⟩
theorem ml_L_137 : Cond.methodLink RL 137 yL_examiner ∈ gTbl := gT 831 (by decide +kernel) (by decide +kernel)
theorem fX5_examiner : MFv yX5_examiner MX5_examiner 2 := ⟨rfl, ⟨by decide, rfl⟩, gT 1129 (by decide +kernel) (by decide +kernel), gT 55 (by decide +kernel) (by decide +kernel), by decide +kernel, by decide, gT 1127 (by decide +kernel) (by decide +kernel), gT 1128 (by decide +kernel) (by decide +kernel)⟩
theorem ml_L_139 : Cond.methodLink RL 139 yX5_examiner ∈ gTbl := gT 1126 (by decide +kernel) (by decide +kernel)
theorem fL_slot : MFh yL_slot ML_slot 5 := ⟨rfl, by decide, gT 837 (by decide +kernel) (by decide +kernel), gT 47 (by decide +kernel) (by decide +kernel), by decide +kernel, by decide, gT 836 (by decide +kernel) (by decide +kernel)⟩
theorem ml_L_140 : Cond.methodLink RL 140 yL_slot ∈ gTbl := gT 835 (by decide +kernel) (by decide +kernel)
theorem fX5_slot : MFv yX5_slot MX5_slot 3 := ⟨rfl, ⟨by decide, rfl⟩, gT 1141 (by decide +kernel) (by decide +kernel), gT 55 (by decide +kernel) (by decide +kernel), by decide +kernel, by decide, gT 1139 (by decide +kernel) (by decide +kernel), gT 1140 (by decide +kernel) (by decide +kernel)⟩
theorem ml_L_143 : Cond.methodLink RL 143 yX5_slot ∈ gTbl := gT 1138 (by decide +kernel) (by decide +kernel)
theorem fL_count : MFh yL_count ML_count 3 := ⟨rfl, by decide, gT 841 (by decide +kernel) (by decide +kernel), gT 47 (by decide +kernel) (by decide +kernel), by decide +kernel, by decide, gT 840 (by decide +kernel) (by decide +kernel)⟩
theorem ml_L_144 : Cond.methodLink RL 144 yL_count ∈ gTbl := gT 839 (by decide +kernel) (by decide +kernel)
theorem fX5_count : MFv yX5_count MX5_count 1 := ⟨rfl, ⟨by decide, rfl⟩, gT 1145 (by decide +kernel) (by decide +kernel), gT 55 (by decide +kernel) (by decide +kernel), by decide +kernel, by decide, gT 1143 (by decide +kernel) (by decide +kernel), gT 1144 (by decide +kernel) (by decide +kernel)⟩
theorem ml_L_146 : Cond.methodLink RL 146 yX5_count ∈ gTbl := gT 1142 (by decide +kernel) (by decide +kernel)
theorem fL_setting : MFh yL_setting ML_setting 3 := ⟨rfl, by decide, gT 845 (by decide +kernel) (by decide +kernel), gT 47 (by decide +kernel) (by decide +kernel), by decide +kernel, by decide, gT 844 (by decide +kernel) (by decide +kernel)⟩
theorem ml_L_147 : Cond.methodLink RL 147 yL_setting ∈ gTbl := gT 843 (by decide +kernel) (by decide +kernel)
theorem fX5_setting : MFv yX5_setting MX5_setting 1 := ⟨rfl, ⟨by decide, rfl⟩, gT 1169 (by decide +kernel) (by decide +kernel), gT 55 (by decide +kernel) (by decide +kernel), by decide +kernel, by decide, gT 1167 (by decide +kernel) (by decide +kernel), gT 1168 (by decide +kernel) (by decide +kernel)⟩
theorem ml_L_149 : Cond.methodLink RL 149 yX5_setting ∈ gTbl := gT 1166 (by decide +kernel) (by decide +kernel)
theorem fL_earliest : MFh yL_earliest ML_earliest 4 := ⟨rfl, by decide, gT 852 (by decide +kernel) (by decide +kernel), gT 47 (by decide +kernel) (by decide +kernel), by decide +kernel, by decide, gT 851 (by decide +kernel) (by decide +kernel)⟩
theorem ml_L_150 : Cond.methodLink RL 150 yL_earliest ∈ gTbl := gT 850 (by decide +kernel) (by decide +kernel)
theorem fX5_earliest : MFv yX5_earliest MX5_earliest 2 := ⟨rfl, ⟨by decide, rfl⟩, gT 1173 (by decide +kernel) (by decide +kernel), gT 55 (by decide +kernel) (by decide +kernel), by decide +kernel, by decide, gT 1171 (by decide +kernel) (by decide +kernel), gT 1172 (by decide +kernel) (by decide +kernel)⟩
theorem ml_L_152 : Cond.methodLink RL 152 yX5_earliest ∈ gTbl := gT 1170 (by decide +kernel) (by decide +kernel)
theorem fL_ifCancelled : MFh yL_ifCancelled ML_ifCancelled 5 := ⟨rfl, by decide, gT 856 (by decide +kernel) (by decide +kernel), gT 47 (by decide +kernel) (by decide +kernel), by decide +kernel, by decide, gT 855 (by decide +kernel) (by decide +kernel)⟩
theorem ml_L_153 : Cond.methodLink RL 153 yL_ifCancelled ∈ gTbl := gT 854 (by decide +kernel) (by decide +kernel)
theorem fX5_ifCancelled : MFv yX5_ifCancelled MX5_ifCancelled 3 := ⟨rfl, ⟨by decide, rfl⟩, gT 1177 (by decide +kernel) (by decide +kernel), gT 55 (by decide +kernel) (by decide +kernel), by decide +kernel, by decide, gT 1175 (by decide +kernel) (by decide +kernel), gT 1176 (by decide +kernel) (by decide +kernel)⟩
theorem ml_L_155 : Cond.methodLink RL 155 yX5_ifCancelled ∈ gTbl := gT 1174 (by decide +kernel) (by decide +kernel)
theorem fL_ifTested : MFh yL_ifTested ML_ifTested 4 := ⟨rfl, by decide, gT 860 (by decide +kernel) (by decide +kernel), gT 47 (by decide +kernel) (by decide +kernel), by decide +kernel, by decide, gT 859 (by decide +kernel) (by decide +kernel)⟩
theorem ml_L_156 : Cond.methodLink RL 156 yL_ifTested ∈ gTbl := gT 858 (by decide +kernel) (by decide +kernel)
theorem fX5_ifTested : MFv yX5_ifTested MX5_ifTested 2 := ⟨rfl, ⟨by decide, rfl⟩, gT 1185 (by decide +kernel) (by decide +kernel), gT 55 (by decide +kernel) (by decide +kernel), by decide +kernel, by decide, gT 1183 (by decide +kernel) (by decide +kernel), gT 1184 (by decide +kernel) (by decide +kernel)⟩
theorem ml_L_158 : Cond.methodLink RL 158 yX5_ifTested ∈ gTbl := gT 1182 (by decide +kernel) (by decide +kernel)
theorem fL_couldHave : MFh yL_couldHave ML_couldHave 3 := ⟨rfl, by decide, gT 864 (by decide +kernel) (by decide +kernel), gT 47 (by decide +kernel) (by decide +kernel), by decide +kernel, by decide, gT 863 (by decide +kernel) (by decide +kernel)⟩
theorem ml_L_159 : Cond.methodLink RL 159 yL_couldHave ∈ gTbl := gT 862 (by decide +kernel) (by decide +kernel)
theorem fX5_couldHave : MFv yX5_couldHave MX5_couldHave 1 := ⟨rfl, ⟨by decide, rfl⟩, gT 1189 (by decide +kernel) (by decide +kernel), gT 55 (by decide +kernel) (by decide +kernel), by decide +kernel, by decide, gT 1187 (by decide +kernel) (by decide +kernel), gT 1188 (by decide +kernel) (by decide +kernel)⟩
theorem ml_L_161 : Cond.methodLink RL 161 yX5_couldHave ∈ gTbl := gT 1186 (by decide +kernel) (by decide +kernel)
theorem ml_L_162 : Cond.methodLink RL 162 yX4_passedShare ∈ gTbl := gT 335 (by decide +kernel) (by decide +kernel)
theorem fX5_passedShare : MFv yX5_passedShare MX5_passedShare 0 := ⟨rfl, ⟨by decide, rfl⟩, gT 1201 (by decide +kernel) (by decide +kernel), gT 55 (by decide +kernel) (by decide +kernel), by decide +kernel, by decide, gT 1199 (by decide +kernel) (by decide +kernel), gT 1200 (by decide +kernel) (by decide +kernel)⟩
theorem ml_L_166 : Cond.methodLink RL 166 yX5_passedShare ∈ gTbl := gT 1198 (by decide +kernel) (by decide +kernel)
theorem fX4_digest : MFv yX4_digest MX4_digest 0 := ⟨rfl, ⟨by decide, rfl⟩, gT 354 (by decide +kernel) (by decide +kernel), gT 48 (by decide +kernel) (by decide +kernel), by decide +kernel, by decide, gT 352 (by decide +kernel) (by decide +kernel), gT 353 (by decide +kernel) (by decide +kernel)⟩
theorem ml_L_167 : Cond.methodLink RL 167 yX4_digest ∈ gTbl := gT 351 (by decide +kernel) (by decide +kernel)
theorem fX5_digest : MFv yX5_digest MX5_digest 0 := ⟨rfl, ⟨by decide, rfl⟩, gT 1209 (by decide +kernel) (by decide +kernel), gT 55 (by decide +kernel) (by decide +kernel), by decide +kernel, by decide, gT 1207 (by decide +kernel) (by decide +kernel), gT 1208 (by decide +kernel) (by decide +kernel)⟩
theorem ml_L_171 : Cond.methodLink RL 171 yX5_digest ∈ gTbl := gT 1206 (by decide +kernel) (by decide +kernel)
set_option maxHeartbeats 4000000 in
set_option maxRecDepth 20000 in
theorem sgL_addExaminer {g : GG} {d : Nat} {c n : Nat} {m : PM} {Q : Ou → PM → Nat → Nat → Prop}  (h : Wq g (d + 6) MX4_addExaminer 1 6 0 [some (pO 10 8 0)] [] m (fun o m9 c9 n9 => c9 = 1 ∧ n9 = 6 ∧ cX (fun r1 h2 => Q (.inl (some (pI 0))) (setL h2 0 (Int32.toInt64 r1)) c n) (fun h2 => Q (.inl (some (pI 1))) h2 c n) (fun h2 => False) (fun h2 => False) o m9)) : Wq g (d + 7) ML_addExaminer (c + 1) (n + 6) 0 [some (pO 10 8 0), some (pO 40 10 0)] [] m Q := by
  refine Wq.few (ls' := [some (pO 10 8 0), some (pO 40 10 0), none]) ⟨rfl, ⟨rfl, trivial⟩⟩ ?_
  refine Wq.aload_n (t := 40) (r := 10) (j := 0) dL_addExaminer_0 rfl ?_
  refine Wq.iconst (v := 0) dL_addExaminer_1 (by decide) ?_
  refine Wq.aload_n (t := 10) (r := 8) (j := 0) dL_addExaminer_2 rfl ?_
  refine Wq.callX (As := []) dL_addExaminer_3 fX4_addExaminer ml_L_7 rfl (by decide) rfl (Nat.le_of_ble_eq_true rfl) (Nat.le_of_ble_eq_true rfl) cX_ok h (fun r1 h2 h => ?_) (fun E h2 h => ?_)
  · refine Wq.i2l dL_addExaminer_6 ?_
    refine Wq.last dL_addExaminer_7 ?_
    refine Wq.goto (tgt := 14) dL_addExaminer_8 (by decide) ?_
    refine Wq.iconst (v := 0) dL_addExaminer_14 (by decide) ?_
    exact Wq.iret dL_addExaminer_15 (⟨_, rfl, rfl⟩) h
  · rcases cX_E h with ⟨rfl, h⟩ | ⟨rfl, h⟩ | ⟨rfl, h⟩
    · refine ⟨[], [], (0, 8, 11, 13), 2, 1, rfl, by decide, fun z hz => absurd hz List.not_mem_nil, rfl, by decide, cl_L_13, by decide, Or.inl ⟨2, rfl, rfl, dL_addExaminer_11⟩, ?_⟩
      refine Wq.iconst (v := 1) dL_addExaminer_12 (by decide) ?_
      exact Wq.iret dL_addExaminer_13 (⟨_, rfl, rfl⟩) h
    · exact h.elim
    · exact h.elim
set_option maxHeartbeats 4000000 in
set_option maxRecDepth 20000 in
theorem sgL_addPupil {g : GG} {d : Nat} {c n : Nat} {m : PM} {Q : Ou → PM → Nat → Nat → Prop}  (h : Wq g (d + 6) MX4_addPupil 1 6 0 [some (pO 10 8 0)] [] m (fun o m9 c9 n9 => c9 = 1 ∧ n9 = 6 ∧ cX (fun r1 h2 => Q (.inl (some (pI 0))) (setL h2 0 (Int32.toInt64 r1)) c n) (fun h2 => Q (.inl (some (pI 1))) h2 c n) (fun h2 => False) (fun h2 => False) o m9)) : Wq g (d + 7) ML_addPupil (c + 1) (n + 6) 0 [some (pO 10 8 0), some (pO 40 10 0)] [] m Q := by
  refine Wq.few (ls' := [some (pO 10 8 0), some (pO 40 10 0), none]) ⟨rfl, ⟨rfl, trivial⟩⟩ ?_
  refine Wq.aload_n (t := 40) (r := 10) (j := 0) dL_addPupil_0 rfl ?_
  refine Wq.iconst (v := 0) dL_addPupil_1 (by decide) ?_
  refine Wq.aload_n (t := 10) (r := 8) (j := 0) dL_addPupil_2 rfl ?_
  refine Wq.callX (As := []) dL_addPupil_3 fX4_addPupil ml_L_15 rfl (by decide) rfl (Nat.le_of_ble_eq_true rfl) (Nat.le_of_ble_eq_true rfl) cX_ok h (fun r1 h2 h => ?_) (fun E h2 h => ?_)
  · refine Wq.i2l dL_addPupil_6 ?_
    refine Wq.last dL_addPupil_7 ?_
    refine Wq.goto (tgt := 14) dL_addPupil_8 (by decide) ?_
    refine Wq.iconst (v := 0) dL_addPupil_14 (by decide) ?_
    exact Wq.iret dL_addPupil_15 (⟨_, rfl, rfl⟩) h
  · rcases cX_E h with ⟨rfl, h⟩ | ⟨rfl, h⟩ | ⟨rfl, h⟩
    · refine ⟨[], [], (0, 8, 11, 13), 2, 1, rfl, by decide, fun z hz => absurd hz List.not_mem_nil, rfl, by decide, cl_L_13, by decide, Or.inl ⟨2, rfl, rfl, dL_addPupil_11⟩, ?_⟩
      refine Wq.iconst (v := 1) dL_addPupil_12 (by decide) ?_
      exact Wq.iret dL_addPupil_13 (⟨_, rfl, rfl⟩) h
    · exact h.elim
    · exact h.elim
set_option maxHeartbeats 4000000 in
set_option maxRecDepth 20000 in
theorem sgL_append {g : GG} {d : Nat} {c n : Nat} {m : PM} {Q : Ou → PM → Nat → Nat → Prop} {x1 : Int32} (h : Wq g (d + 6) MX4_append 1 6 0 [some (pO 10 8 0), some (pI x1)] [] m (fun o m9 c9 n9 => c9 = 1 ∧ n9 = 6 ∧ cX (fun r1 h2 => Q (.inl (some (pI 0))) (setL h2 0 (Int32.toInt64 r1)) c n) (fun h2 => Q (.inl (some (pI 2))) h2 c n) (fun h2 => Q (.inl (some (pI 1))) h2 c n) (fun h2 => False) o m9)) : Wq g (d + 7) ML_append (c + 1) (n + 6) 0 [some (pO 10 8 0), some (pI x1), some (pO 40 10 0)] [] m Q := by
  refine Wq.few (ls' := [some (pO 10 8 0), some (pI x1), some (pO 40 10 0), none]) ⟨rfl, ⟨rfl, ⟨rfl, trivial⟩⟩⟩ ?_
  refine Wq.aload_n (t := 40) (r := 10) (j := 0) dL_append_0 rfl ?_
  refine Wq.iconst (v := 0) dL_append_1 (by decide) ?_
  refine Wq.aload_n (t := 10) (r := 8) (j := 0) dL_append_2 rfl ?_
  refine Wq.iload_n (x := x1) dL_append_3 rfl ?_
  refine Wq.callX (As := [pI x1]) dL_append_4 fX4_append ml_L_43 rfl (by decide) rfl (Nat.le_of_ble_eq_true rfl) (Nat.le_of_ble_eq_true rfl) cX_ok h (fun r1 h2 h => ?_) (fun E h2 h => ?_)
  · refine Wq.i2l dL_append_7 ?_
    refine Wq.last dL_append_8 ?_
    refine Wq.goto (tgt := 18) dL_append_9 (by decide) ?_
    refine Wq.iconst (v := 0) dL_append_18 (by decide) ?_
    exact Wq.iret dL_append_19 (⟨_, rfl, rfl⟩) h
  · rcases cX_E h with ⟨rfl, h⟩ | ⟨rfl, h⟩ | ⟨rfl, h⟩
    · refine ⟨[(0, 9, 12, 31)], [], (0, 9, 15, 13), 3, 1, rfl, by decide, fun z hz => by rw [List.mem_singleton.mp hz]; exact Or.inr ⟨by decide, _, cl_L_31, by decide⟩, rfl, by decide, cl_L_13, by decide, Or.inl ⟨3, rfl, rfl, dL_append_15⟩, ?_⟩
      refine Wq.iconst (v := 2) dL_append_16 (by decide) ?_
      exact Wq.iret dL_append_17 (⟨_, rfl, rfl⟩) h
    · refine ⟨[], [(0, 9, 15, 13)], (0, 9, 12, 31), 3, 1, rfl, by decide, fun z hz => absurd hz List.not_mem_nil, rfl, by decide, cl_L_31, by decide, Or.inl ⟨3, rfl, rfl, dL_append_12⟩, ?_⟩
      refine Wq.iconst (v := 1) dL_append_13 (by decide) ?_
      exact Wq.iret dL_append_14 (⟨_, rfl, rfl⟩) h
    · exact h.elim
set_option maxHeartbeats 4000000 in
set_option maxRecDepth 20000 in
theorem sgL_ask {g : GG} {d : Nat} {c n : Nat} {m : PM} {Q : Ou → PM → Nat → Nat → Prop} {x1 : Int32} (h : Wq g (d + 6) MX4_ask 1 6 0 [some (pO 10 8 0), some (pI x1)] [] m (fun o m9 c9 n9 => c9 = 1 ∧ n9 = 6 ∧ cX (fun r1 h2 => Q (.inl (some (pI 0))) (setL h2 0 (Int32.toInt64 r1)) c n) (fun h2 => Q (.inl (some (pI 2))) h2 c n) (fun h2 => False) (fun h2 => Q (.inl (some (pI 1))) h2 c n) o m9)) : Wq g (d + 7) ML_ask (c + 1) (n + 6) 0 [some (pO 10 8 0), some (pI x1), some (pO 40 10 0)] [] m Q := by
  refine Wq.few (ls' := [some (pO 10 8 0), some (pI x1), some (pO 40 10 0), none]) ⟨rfl, ⟨rfl, ⟨rfl, trivial⟩⟩⟩ ?_
  refine Wq.aload_n (t := 40) (r := 10) (j := 0) dL_ask_0 rfl ?_
  refine Wq.iconst (v := 0) dL_ask_1 (by decide) ?_
  refine Wq.aload_n (t := 10) (r := 8) (j := 0) dL_ask_2 rfl ?_
  refine Wq.iload_n (x := x1) dL_ask_3 rfl ?_
  refine Wq.callX (As := [pI x1]) dL_ask_4 fX4_ask ml_L_18 rfl (by decide) rfl (Nat.le_of_ble_eq_true rfl) (Nat.le_of_ble_eq_true rfl) cX_ok h (fun r1 h2 h => ?_) (fun E h2 h => ?_)
  · refine Wq.i2l dL_ask_7 ?_
    refine Wq.last dL_ask_8 ?_
    refine Wq.goto (tgt := 18) dL_ask_9 (by decide) ?_
    refine Wq.iconst (v := 0) dL_ask_18 (by decide) ?_
    exact Wq.iret dL_ask_19 (⟨_, rfl, rfl⟩) h
  · rcases cX_E h with ⟨rfl, h⟩ | ⟨rfl, h⟩ | ⟨rfl, h⟩
    · refine ⟨[(0, 9, 12, 22)], [], (0, 9, 15, 13), 3, 1, rfl, by decide, fun z hz => by rw [List.mem_singleton.mp hz]; exact Or.inr ⟨by decide, _, cl_L_22, by decide⟩, rfl, by decide, cl_L_13, by decide, Or.inl ⟨3, rfl, rfl, dL_ask_15⟩, ?_⟩
      refine Wq.iconst (v := 2) dL_ask_16 (by decide) ?_
      exact Wq.iret dL_ask_17 (⟨_, rfl, rfl⟩) h
    · exact h.elim
    · refine ⟨[], [(0, 9, 15, 13)], (0, 9, 12, 22), 3, 1, rfl, by decide, fun z hz => absurd hz List.not_mem_nil, rfl, by decide, cl_L_22, by decide, Or.inl ⟨3, rfl, rfl, dL_ask_12⟩, ?_⟩
      refine Wq.iconst (v := 1) dL_ask_13 (by decide) ?_
      exact Wq.iret dL_ask_14 (⟨_, rfl, rfl⟩) h
set_option maxHeartbeats 4000000 in
set_option maxRecDepth 20000 in
theorem sgL_cancel {g : GG} {d : Nat} {c n : Nat} {m : PM} {Q : Ou → PM → Nat → Nat → Prop} {x1 : Int32} {x2 : Int32} (h : Wq g (d + 6) MX4_cancel 1 6 0 [some (pO 10 8 0), some (pI x1), some (pI x2)] [] m (fun o m9 c9 n9 => c9 = 1 ∧ n9 = 6 ∧ cX (fun r1 h2 => Q (.inl (some (pI 0))) (setL h2 0 (Int32.toInt64 r1)) c n) (fun h2 => False) (fun h2 => Q (.inl (some (pI 2))) h2 c n) (fun h2 => Q (.inl (some (pI 1))) h2 c n) o m9)) : Wq g (d + 7) ML_cancel (c + 1) (n + 6) 0 [some (pO 10 8 0), some (pI x1), some (pI x2), some (pO 40 10 0)] [] m Q := by
  refine Wq.few (ls' := [some (pO 10 8 0), some (pI x1), some (pI x2), some (pO 40 10 0), none]) ⟨rfl, ⟨rfl, ⟨rfl, ⟨rfl, trivial⟩⟩⟩⟩ ?_
  refine Wq.aload_n (t := 40) (r := 10) (j := 0) dL_cancel_0 rfl ?_
  refine Wq.iconst (v := 0) dL_cancel_1 (by decide) ?_
  refine Wq.aload_n (t := 10) (r := 8) (j := 0) dL_cancel_2 rfl ?_
  refine Wq.iload_n (x := x1) dL_cancel_3 rfl ?_
  refine Wq.iload_n (x := x2) dL_cancel_4 rfl ?_
  refine Wq.callX (As := [pI x1, pI x2]) dL_cancel_5 fX4_cancel ml_L_27 rfl (by decide) rfl (Nat.le_of_ble_eq_true rfl) (Nat.le_of_ble_eq_true rfl) cX_ok h (fun r1 h2 h => ?_) (fun E h2 h => ?_)
  · refine Wq.i2l dL_cancel_8 ?_
    refine Wq.last dL_cancel_9 ?_
    refine Wq.goto (tgt := 21) dL_cancel_10 (by decide) ?_
    refine Wq.iconst (v := 0) dL_cancel_21 (by decide) ?_
    exact Wq.iret dL_cancel_22 (⟨_, rfl, rfl⟩) h
  · rcases cX_E h with ⟨rfl, h⟩ | ⟨rfl, h⟩ | ⟨rfl, h⟩
    · exact h.elim
    · refine ⟨[(0, 10, 13, 22)], [], (0, 10, 17, 31), 4, 2, rfl, by decide, fun z hz => by rw [List.mem_singleton.mp hz]; exact Or.inr ⟨by decide, _, cl_L_22, by decide⟩, rfl, by decide, cl_L_31, by decide, Or.inr ⟨rfl, dL_cancel_17⟩, ?_⟩
      refine Wq.iconst (v := 2) dL_cancel_19 (by decide) ?_
      exact Wq.iret dL_cancel_20 (⟨_, rfl, rfl⟩) h
    · refine ⟨[], [(0, 10, 17, 31)], (0, 10, 13, 22), 4, 2, rfl, by decide, fun z hz => absurd hz List.not_mem_nil, rfl, by decide, cl_L_22, by decide, Or.inr ⟨rfl, dL_cancel_13⟩, ?_⟩
      refine Wq.iconst (v := 1) dL_cancel_15 (by decide) ?_
      exact Wq.iret dL_cancel_16 (⟨_, rfl, rfl⟩) h
set_option maxHeartbeats 4000000 in
set_option maxRecDepth 20000 in
theorem sgL_couldHave {g : GG} {d : Nat} {c n : Nat} {m : PM} {Q : Ou → PM → Nat → Nat → Prop} {x1 : Int32} (h : Wq g (d + 6) MX4_couldHave 1 6 0 [some (pO 10 8 0), some (pI x1)] [] m (fun o m9 c9 n9 => c9 = 1 ∧ n9 = 6 ∧ cX (fun r1 h2 => Q (.inl (some (pI 0))) (setL h2 0 (Int32.toInt64 r1)) c n) (fun h2 => False) (fun h2 => Q (.inl (some (pI 1))) h2 c n) (fun h2 => False) o m9)) : Wq g (d + 7) ML_couldHave (c + 1) (n + 6) 0 [some (pO 10 8 0), some (pI x1), some (pO 40 10 0)] [] m Q := by
  refine Wq.few (ls' := [some (pO 10 8 0), some (pI x1), some (pO 40 10 0), none]) ⟨rfl, ⟨rfl, ⟨rfl, trivial⟩⟩⟩ ?_
  refine Wq.aload_n (t := 40) (r := 10) (j := 0) dL_couldHave_0 rfl ?_
  refine Wq.iconst (v := 0) dL_couldHave_1 (by decide) ?_
  refine Wq.aload_n (t := 10) (r := 8) (j := 0) dL_couldHave_2 rfl ?_
  refine Wq.iload_n (x := x1) dL_couldHave_3 rfl ?_
  refine Wq.callX (As := [pI x1]) dL_couldHave_4 fX4_couldHave ml_L_77 rfl (by decide) rfl (Nat.le_of_ble_eq_true rfl) (Nat.le_of_ble_eq_true rfl) cX_ok h (fun r1 h2 h => ?_) (fun E h2 h => ?_)
  · refine Wq.i2l dL_couldHave_7 ?_
    refine Wq.last dL_couldHave_8 ?_
    refine Wq.goto (tgt := 15) dL_couldHave_9 (by decide) ?_
    refine Wq.iconst (v := 0) dL_couldHave_15 (by decide) ?_
    exact Wq.iret dL_couldHave_16 (⟨_, rfl, rfl⟩) h
  · rcases cX_E h with ⟨rfl, h⟩ | ⟨rfl, h⟩ | ⟨rfl, h⟩
    · exact h.elim
    · refine ⟨[], [], (0, 9, 12, 31), 3, 1, rfl, by decide, fun z hz => absurd hz List.not_mem_nil, rfl, by decide, cl_L_31, by decide, Or.inl ⟨3, rfl, rfl, dL_couldHave_12⟩, ?_⟩
      refine Wq.iconst (v := 1) dL_couldHave_13 (by decide) ?_
      exact Wq.iret dL_couldHave_14 (⟨_, rfl, rfl⟩) h
    · exact h.elim
set_option maxHeartbeats 4000000 in
set_option maxRecDepth 20000 in
theorem sgL_count {g : GG} {d : Nat} {c n : Nat} {m : PM} {Q : Ou → PM → Nat → Nat → Prop} {x1 : Int32} (h : Wq g (d + 6) MX4_count 1 6 0 [some (pO 10 8 0), some (pI x1)] [] m (fun o m9 c9 n9 => c9 = 1 ∧ n9 = 6 ∧ cX (fun r1 h2 => Q (.inl (some (pI 0))) (setL h2 0 (Int32.toInt64 r1)) c n) (fun h2 => False) (fun h2 => Q (.inl (some (pI 1))) h2 c n) (fun h2 => False) o m9)) : Wq g (d + 7) ML_count (c + 1) (n + 6) 0 [some (pO 10 8 0), some (pI x1), some (pO 40 10 0)] [] m Q := by
  refine Wq.few (ls' := [some (pO 10 8 0), some (pI x1), some (pO 40 10 0), none]) ⟨rfl, ⟨rfl, ⟨rfl, trivial⟩⟩⟩ ?_
  refine Wq.aload_n (t := 40) (r := 10) (j := 0) dL_count_0 rfl ?_
  refine Wq.iconst (v := 0) dL_count_1 (by decide) ?_
  refine Wq.aload_n (t := 10) (r := 8) (j := 0) dL_count_2 rfl ?_
  refine Wq.iload_n (x := x1) dL_count_3 rfl ?_
  refine Wq.callX (As := [pI x1]) dL_count_4 fX4_count ml_L_62 rfl (by decide) rfl (Nat.le_of_ble_eq_true rfl) (Nat.le_of_ble_eq_true rfl) cX_ok h (fun r1 h2 h => ?_) (fun E h2 h => ?_)
  · refine Wq.i2l dL_count_7 ?_
    refine Wq.last dL_count_8 ?_
    refine Wq.goto (tgt := 15) dL_count_9 (by decide) ?_
    refine Wq.iconst (v := 0) dL_count_15 (by decide) ?_
    exact Wq.iret dL_count_16 (⟨_, rfl, rfl⟩) h
  · rcases cX_E h with ⟨rfl, h⟩ | ⟨rfl, h⟩ | ⟨rfl, h⟩
    · exact h.elim
    · refine ⟨[], [], (0, 9, 12, 31), 3, 1, rfl, by decide, fun z hz => absurd hz List.not_mem_nil, rfl, by decide, cl_L_31, by decide, Or.inl ⟨3, rfl, rfl, dL_count_12⟩, ?_⟩
      refine Wq.iconst (v := 1) dL_count_13 (by decide) ?_
      exact Wq.iret dL_count_14 (⟨_, rfl, rfl⟩) h
    · exact h.elim
set_option maxHeartbeats 4000000 in
set_option maxRecDepth 20000 in
theorem sgL_earliest {g : GG} {d : Nat} {c n : Nat} {m : PM} {Q : Ou → PM → Nat → Nat → Prop} {x1 : Int32} {x2 : Int32} (h : Wq g (d + 6) MX4_earliest 1 6 0 [some (pO 10 8 0), some (pI x1), some (pI x2)] [] m (fun o m9 c9 n9 => c9 = 1 ∧ n9 = 6 ∧ cX (fun r1 h2 => Q (.inl (some (pI 0))) (setL h2 0 (Int32.toInt64 r1)) c n) (fun h2 => False) (fun h2 => Q (.inl (some (pI 2))) h2 c n) (fun h2 => Q (.inl (some (pI 1))) h2 c n) o m9)) : Wq g (d + 7) ML_earliest (c + 1) (n + 6) 0 [some (pO 10 8 0), some (pI x1), some (pI x2), some (pO 40 10 0)] [] m Q := by
  refine Wq.few (ls' := [some (pO 10 8 0), some (pI x1), some (pI x2), some (pO 40 10 0), none]) ⟨rfl, ⟨rfl, ⟨rfl, ⟨rfl, trivial⟩⟩⟩⟩ ?_
  refine Wq.aload_n (t := 40) (r := 10) (j := 0) dL_earliest_0 rfl ?_
  refine Wq.iconst (v := 0) dL_earliest_1 (by decide) ?_
  refine Wq.aload_n (t := 10) (r := 8) (j := 0) dL_earliest_2 rfl ?_
  refine Wq.iload_n (x := x1) dL_earliest_3 rfl ?_
  refine Wq.iload_n (x := x2) dL_earliest_4 rfl ?_
  refine Wq.callX (As := [pI x1, pI x2]) dL_earliest_5 fX4_earliest ml_L_68 rfl (by decide) rfl (Nat.le_of_ble_eq_true rfl) (Nat.le_of_ble_eq_true rfl) cX_ok h (fun r1 h2 h => ?_) (fun E h2 h => ?_)
  · refine Wq.i2l dL_earliest_8 ?_
    refine Wq.last dL_earliest_9 ?_
    refine Wq.goto (tgt := 21) dL_earliest_10 (by decide) ?_
    refine Wq.iconst (v := 0) dL_earliest_21 (by decide) ?_
    exact Wq.iret dL_earliest_22 (⟨_, rfl, rfl⟩) h
  · rcases cX_E h with ⟨rfl, h⟩ | ⟨rfl, h⟩ | ⟨rfl, h⟩
    · exact h.elim
    · refine ⟨[(0, 10, 13, 22)], [], (0, 10, 17, 31), 4, 2, rfl, by decide, fun z hz => by rw [List.mem_singleton.mp hz]; exact Or.inr ⟨by decide, _, cl_L_22, by decide⟩, rfl, by decide, cl_L_31, by decide, Or.inr ⟨rfl, dL_earliest_17⟩, ?_⟩
      refine Wq.iconst (v := 2) dL_earliest_19 (by decide) ?_
      exact Wq.iret dL_earliest_20 (⟨_, rfl, rfl⟩) h
    · refine ⟨[], [(0, 10, 17, 31)], (0, 10, 13, 22), 4, 2, rfl, by decide, fun z hz => absurd hz List.not_mem_nil, rfl, by decide, cl_L_22, by decide, Or.inr ⟨rfl, dL_earliest_13⟩, ?_⟩
      refine Wq.iconst (v := 1) dL_earliest_15 (by decide) ?_
      exact Wq.iret dL_earliest_16 (⟨_, rfl, rfl⟩) h
set_option maxHeartbeats 4000000 in
set_option maxRecDepth 20000 in
theorem sgL_examiner {g : GG} {d : Nat} {c n : Nat} {m : PM} {Q : Ou → PM → Nat → Nat → Prop} {x1 : Int32} {x2 : Int32} (h : Wq g (d + 6) MX4_examiner 1 6 0 [some (pO 10 8 0), some (pI x1), some (pI x2)] [] m (fun o m9 c9 n9 => c9 = 1 ∧ n9 = 6 ∧ cX (fun r1 h2 => Q (.inl (some (pI 0))) (setL h2 0 (Int32.toInt64 r1)) c n) (fun h2 => False) (fun h2 => Q (.inl (some (pI 2))) h2 c n) (fun h2 => Q (.inl (some (pI 1))) h2 c n) o m9)) : Wq g (d + 7) ML_examiner (c + 1) (n + 6) 0 [some (pO 10 8 0), some (pI x1), some (pI x2), some (pO 40 10 0)] [] m Q := by
  refine Wq.few (ls' := [some (pO 10 8 0), some (pI x1), some (pI x2), some (pO 40 10 0), none]) ⟨rfl, ⟨rfl, ⟨rfl, ⟨rfl, trivial⟩⟩⟩⟩ ?_
  refine Wq.aload_n (t := 40) (r := 10) (j := 0) dL_examiner_0 rfl ?_
  refine Wq.iconst (v := 0) dL_examiner_1 (by decide) ?_
  refine Wq.aload_n (t := 10) (r := 8) (j := 0) dL_examiner_2 rfl ?_
  refine Wq.iload_n (x := x1) dL_examiner_3 rfl ?_
  refine Wq.iload_n (x := x2) dL_examiner_4 rfl ?_
  refine Wq.callX (As := [pI x1, pI x2]) dL_examiner_5 fX4_examiner ml_L_55 rfl (by decide) rfl (Nat.le_of_ble_eq_true rfl) (Nat.le_of_ble_eq_true rfl) cX_ok h (fun r1 h2 h => ?_) (fun E h2 h => ?_)
  · refine Wq.i2l dL_examiner_8 ?_
    refine Wq.last dL_examiner_9 ?_
    refine Wq.goto (tgt := 21) dL_examiner_10 (by decide) ?_
    refine Wq.iconst (v := 0) dL_examiner_21 (by decide) ?_
    exact Wq.iret dL_examiner_22 (⟨_, rfl, rfl⟩) h
  · rcases cX_E h with ⟨rfl, h⟩ | ⟨rfl, h⟩ | ⟨rfl, h⟩
    · exact h.elim
    · refine ⟨[(0, 10, 13, 22)], [], (0, 10, 17, 31), 4, 2, rfl, by decide, fun z hz => by rw [List.mem_singleton.mp hz]; exact Or.inr ⟨by decide, _, cl_L_22, by decide⟩, rfl, by decide, cl_L_31, by decide, Or.inr ⟨rfl, dL_examiner_17⟩, ?_⟩
      refine Wq.iconst (v := 2) dL_examiner_19 (by decide) ?_
      exact Wq.iret dL_examiner_20 (⟨_, rfl, rfl⟩) h
    · refine ⟨[], [(0, 10, 17, 31)], (0, 10, 13, 22), 4, 2, rfl, by decide, fun z hz => absurd hz List.not_mem_nil, rfl, by decide, cl_L_22, by decide, Or.inr ⟨rfl, dL_examiner_13⟩, ?_⟩
      refine Wq.iconst (v := 1) dL_examiner_15 (by decide) ?_
      exact Wq.iret dL_examiner_16 (⟨_, rfl, rfl⟩) h
set_option maxHeartbeats 4000000 in
set_option maxRecDepth 20000 in
theorem sgL_ifCancelled {g : GG} {d : Nat} {c n : Nat} {m : PM} {Q : Ou → PM → Nat → Nat → Prop} {x1 : Int32} {x2 : Int32} {x3 : Int32} (h : Wq g (d + 6) MX4_ifCancelled 1 6 0 [some (pO 10 8 0), some (pI x1), some (pI x2), some (pI x3)] [] m (fun o m9 c9 n9 => c9 = 1 ∧ n9 = 6 ∧ cX (fun r1 h2 => Q (.inl (some (pI 0))) (setL h2 0 (Int32.toInt64 r1)) c n) (fun h2 => False) (fun h2 => Q (.inl (some (pI 2))) h2 c n) (fun h2 => Q (.inl (some (pI 1))) h2 c n) o m9)) : Wq g (d + 7) ML_ifCancelled (c + 1) (n + 6) 0 [some (pO 10 8 0), some (pI x1), some (pI x2), some (pI x3), some (pO 40 10 0)] [] m Q := by
  refine Wq.few (ls' := [some (pO 10 8 0), some (pI x1), some (pI x2), some (pI x3), some (pO 40 10 0), none]) ⟨rfl, ⟨rfl, ⟨rfl, ⟨rfl, ⟨rfl, trivial⟩⟩⟩⟩⟩ ?_
  refine Wq.aload (t := 40) (r := 10) (j := 0) dL_ifCancelled_0 rfl ?_
  refine Wq.iconst (v := 0) dL_ifCancelled_2 (by decide) ?_
  refine Wq.aload_n (t := 10) (r := 8) (j := 0) dL_ifCancelled_3 rfl ?_
  refine Wq.iload_n (x := x1) dL_ifCancelled_4 rfl ?_
  refine Wq.iload_n (x := x2) dL_ifCancelled_5 rfl ?_
  refine Wq.iload_n (x := x3) dL_ifCancelled_6 rfl ?_
  refine Wq.callX (As := [pI x1, pI x2, pI x3]) dL_ifCancelled_7 fX4_ifCancelled ml_L_71 rfl (by decide) rfl (Nat.le_of_ble_eq_true rfl) (Nat.le_of_ble_eq_true rfl) cX_ok h (fun r1 h2 h => ?_) (fun E h2 h => ?_)
  · refine Wq.i2l dL_ifCancelled_10 ?_
    refine Wq.last dL_ifCancelled_11 ?_
    refine Wq.goto (tgt := 23) dL_ifCancelled_12 (by decide) ?_
    refine Wq.iconst (v := 0) dL_ifCancelled_23 (by decide) ?_
    exact Wq.iret dL_ifCancelled_24 (⟨_, rfl, rfl⟩) h
  · rcases cX_E h with ⟨rfl, h⟩ | ⟨rfl, h⟩ | ⟨rfl, h⟩
    · exact h.elim
    · refine ⟨[(0, 12, 15, 22)], [], (0, 12, 19, 31), 5, 2, rfl, by decide, fun z hz => by rw [List.mem_singleton.mp hz]; exact Or.inr ⟨by decide, _, cl_L_22, by decide⟩, rfl, by decide, cl_L_31, by decide, Or.inr ⟨rfl, dL_ifCancelled_19⟩, ?_⟩
      refine Wq.iconst (v := 2) dL_ifCancelled_21 (by decide) ?_
      exact Wq.iret dL_ifCancelled_22 (⟨_, rfl, rfl⟩) h
    · refine ⟨[], [(0, 12, 19, 31)], (0, 12, 15, 22), 5, 2, rfl, by decide, fun z hz => absurd hz List.not_mem_nil, rfl, by decide, cl_L_22, by decide, Or.inr ⟨rfl, dL_ifCancelled_15⟩, ?_⟩
      refine Wq.iconst (v := 1) dL_ifCancelled_17 (by decide) ?_
      exact Wq.iret dL_ifCancelled_18 (⟨_, rfl, rfl⟩) h
set_option maxHeartbeats 4000000 in
set_option maxRecDepth 20000 in
theorem sgL_ifTested {g : GG} {d : Nat} {c n : Nat} {m : PM} {Q : Ou → PM → Nat → Nat → Prop} {x1 : Int32} {x2 : Int32} (h : Wq g (d + 6) MX4_ifTested 1 6 0 [some (pO 10 8 0), some (pI x1), some (pI x2)] [] m (fun o m9 c9 n9 => c9 = 1 ∧ n9 = 6 ∧ cX (fun r1 h2 => Q (.inl (some (pI 0))) (setL h2 0 (Int32.toInt64 r1)) c n) (fun h2 => False) (fun h2 => False) (fun h2 => Q (.inl (some (pI 1))) h2 c n) o m9)) : Wq g (d + 7) ML_ifTested (c + 1) (n + 6) 0 [some (pO 10 8 0), some (pI x1), some (pI x2), some (pO 40 10 0)] [] m Q := by
  refine Wq.few (ls' := [some (pO 10 8 0), some (pI x1), some (pI x2), some (pO 40 10 0), none]) ⟨rfl, ⟨rfl, ⟨rfl, ⟨rfl, trivial⟩⟩⟩⟩ ?_
  refine Wq.aload_n (t := 40) (r := 10) (j := 0) dL_ifTested_0 rfl ?_
  refine Wq.iconst (v := 0) dL_ifTested_1 (by decide) ?_
  refine Wq.aload_n (t := 10) (r := 8) (j := 0) dL_ifTested_2 rfl ?_
  refine Wq.iload_n (x := x1) dL_ifTested_3 rfl ?_
  refine Wq.iload_n (x := x2) dL_ifTested_4 rfl ?_
  refine Wq.callX (As := [pI x1, pI x2]) dL_ifTested_5 fX4_ifTested ml_L_74 rfl (by decide) rfl (Nat.le_of_ble_eq_true rfl) (Nat.le_of_ble_eq_true rfl) cX_ok h (fun r1 h2 h => ?_) (fun E h2 h => ?_)
  · refine Wq.i2l dL_ifTested_8 ?_
    refine Wq.last dL_ifTested_9 ?_
    refine Wq.goto (tgt := 17) dL_ifTested_10 (by decide) ?_
    refine Wq.iconst (v := 0) dL_ifTested_17 (by decide) ?_
    exact Wq.iret dL_ifTested_18 (⟨_, rfl, rfl⟩) h
  · rcases cX_E h with ⟨rfl, h⟩ | ⟨rfl, h⟩ | ⟨rfl, h⟩
    · exact h.elim
    · exact h.elim
    · refine ⟨[], [], (0, 10, 13, 22), 4, 2, rfl, by decide, fun z hz => absurd hz List.not_mem_nil, rfl, by decide, cl_L_22, by decide, Or.inr ⟨rfl, dL_ifTested_13⟩, ?_⟩
      refine Wq.iconst (v := 1) dL_ifTested_15 (by decide) ?_
      exact Wq.iret dL_ifTested_16 (⟨_, rfl, rfl⟩) h
set_option maxHeartbeats 4000000 in
set_option maxRecDepth 20000 in
theorem sgL_next {g : GG} {d : Nat} {c n : Nat} {m : PM} {Q : Ou → PM → Nat → Nat → Prop}  (h : Wq g (d + 6) MX4_next 1 6 0 [some (pO 10 8 0)] [] m (fun o m9 c9 n9 => c9 = 1 ∧ n9 = 6 ∧ cX (fun r1 h2 => Q (.inl (some (pI 0))) (setL h2 0 (Int32.toInt64 r1)) c n) (fun h2 => Q (.inl (some (pI 1))) h2 c n) (fun h2 => False) (fun h2 => False) o m9)) : Wq g (d + 7) ML_next (c + 1) (n + 6) 0 [some (pO 10 8 0), some (pO 40 10 0)] [] m Q := by
  refine Wq.few (ls' := [some (pO 10 8 0), some (pO 40 10 0), none]) ⟨rfl, ⟨rfl, trivial⟩⟩ ?_
  refine Wq.aload_n (t := 40) (r := 10) (j := 0) dL_next_0 rfl ?_
  refine Wq.iconst (v := 0) dL_next_1 (by decide) ?_
  refine Wq.aload_n (t := 10) (r := 8) (j := 0) dL_next_2 rfl ?_
  refine Wq.callX (As := []) dL_next_3 fX4_next ml_L_37 rfl (by decide) rfl (Nat.le_of_ble_eq_true rfl) (Nat.le_of_ble_eq_true rfl) cX_ok h (fun r1 h2 h => ?_) (fun E h2 h => ?_)
  · refine Wq.i2l dL_next_6 ?_
    refine Wq.last dL_next_7 ?_
    refine Wq.goto (tgt := 14) dL_next_8 (by decide) ?_
    refine Wq.iconst (v := 0) dL_next_14 (by decide) ?_
    exact Wq.iret dL_next_15 (⟨_, rfl, rfl⟩) h
  · rcases cX_E h with ⟨rfl, h⟩ | ⟨rfl, h⟩ | ⟨rfl, h⟩
    · refine ⟨[], [], (0, 8, 11, 13), 2, 1, rfl, by decide, fun z hz => absurd hz List.not_mem_nil, rfl, by decide, cl_L_13, by decide, Or.inl ⟨2, rfl, rfl, dL_next_11⟩, ?_⟩
      refine Wq.iconst (v := 1) dL_next_12 (by decide) ?_
      exact Wq.iret dL_next_13 (⟨_, rfl, rfl⟩) h
    · exact h.elim
    · exact h.elim
set_option maxHeartbeats 4000000 in
set_option maxRecDepth 20000 in
theorem sgL_pupil {g : GG} {d : Nat} {c n : Nat} {m : PM} {Q : Ou → PM → Nat → Nat → Prop} {x1 : Int32} {x2 : Int32} (h : Wq g (d + 6) MX4_pupil 1 6 0 [some (pO 10 8 0), some (pI x1), some (pI x2)] [] m (fun o m9 c9 n9 => c9 = 1 ∧ n9 = 6 ∧ cX (fun r1 h2 => Q (.inl (some (pI 0))) (setL h2 0 (Int32.toInt64 r1)) c n) (fun h2 => False) (fun h2 => Q (.inl (some (pI 2))) h2 c n) (fun h2 => Q (.inl (some (pI 1))) h2 c n) o m9)) : Wq g (d + 7) ML_pupil (c + 1) (n + 6) 0 [some (pO 10 8 0), some (pI x1), some (pI x2), some (pO 40 10 0)] [] m Q := by
  refine Wq.few (ls' := [some (pO 10 8 0), some (pI x1), some (pI x2), some (pO 40 10 0), none]) ⟨rfl, ⟨rfl, ⟨rfl, ⟨rfl, trivial⟩⟩⟩⟩ ?_
  refine Wq.aload_n (t := 40) (r := 10) (j := 0) dL_pupil_0 rfl ?_
  refine Wq.iconst (v := 0) dL_pupil_1 (by decide) ?_
  refine Wq.aload_n (t := 10) (r := 8) (j := 0) dL_pupil_2 rfl ?_
  refine Wq.iload_n (x := x1) dL_pupil_3 rfl ?_
  refine Wq.iload_n (x := x2) dL_pupil_4 rfl ?_
  refine Wq.callX (As := [pI x1, pI x2]) dL_pupil_5 fX4_pupil ml_L_52 rfl (by decide) rfl (Nat.le_of_ble_eq_true rfl) (Nat.le_of_ble_eq_true rfl) cX_ok h (fun r1 h2 h => ?_) (fun E h2 h => ?_)
  · refine Wq.i2l dL_pupil_8 ?_
    refine Wq.last dL_pupil_9 ?_
    refine Wq.goto (tgt := 21) dL_pupil_10 (by decide) ?_
    refine Wq.iconst (v := 0) dL_pupil_21 (by decide) ?_
    exact Wq.iret dL_pupil_22 (⟨_, rfl, rfl⟩) h
  · rcases cX_E h with ⟨rfl, h⟩ | ⟨rfl, h⟩ | ⟨rfl, h⟩
    · exact h.elim
    · refine ⟨[(0, 10, 13, 22)], [], (0, 10, 17, 31), 4, 2, rfl, by decide, fun z hz => by rw [List.mem_singleton.mp hz]; exact Or.inr ⟨by decide, _, cl_L_22, by decide⟩, rfl, by decide, cl_L_31, by decide, Or.inr ⟨rfl, dL_pupil_17⟩, ?_⟩
      refine Wq.iconst (v := 2) dL_pupil_19 (by decide) ?_
      exact Wq.iret dL_pupil_20 (⟨_, rfl, rfl⟩) h
    · refine ⟨[], [(0, 10, 17, 31)], (0, 10, 13, 22), 4, 2, rfl, by decide, fun z hz => absurd hz List.not_mem_nil, rfl, by decide, cl_L_22, by decide, Or.inr ⟨rfl, dL_pupil_13⟩, ?_⟩
      refine Wq.iconst (v := 1) dL_pupil_15 (by decide) ?_
      exact Wq.iret dL_pupil_16 (⟨_, rfl, rfl⟩) h
set_option maxHeartbeats 4000000 in
set_option maxRecDepth 20000 in
theorem sgL_quit {g : GG} {d : Nat} {c n : Nat} {m : PM} {Q : Ou → PM → Nat → Nat → Prop} {x1 : Int32} (h : Wq g (d + 6) MX4_quit 1 6 0 [some (pO 10 8 0), some (pI x1)] [] m (fun o m9 c9 n9 => c9 = 1 ∧ n9 = 6 ∧ cX (fun r1 h2 => Q (.inl (some (pI 0))) (setL h2 0 (Int32.toInt64 r1)) c n) (fun h2 => Q (.inl (some (pI 2))) h2 c n) (fun h2 => False) (fun h2 => Q (.inl (some (pI 1))) h2 c n) o m9)) : Wq g (d + 7) ML_quit (c + 1) (n + 6) 0 [some (pO 10 8 0), some (pI x1), some (pO 40 10 0)] [] m Q := by
  refine Wq.few (ls' := [some (pO 10 8 0), some (pI x1), some (pO 40 10 0), none]) ⟨rfl, ⟨rfl, ⟨rfl, trivial⟩⟩⟩ ?_
  refine Wq.aload_n (t := 40) (r := 10) (j := 0) dL_quit_0 rfl ?_
  refine Wq.iconst (v := 0) dL_quit_1 (by decide) ?_
  refine Wq.aload_n (t := 10) (r := 8) (j := 0) dL_quit_2 rfl ?_
  refine Wq.iload_n (x := x1) dL_quit_3 rfl ?_
  refine Wq.callX (As := [pI x1]) dL_quit_4 fX4_quit ml_L_24 rfl (by decide) rfl (Nat.le_of_ble_eq_true rfl) (Nat.le_of_ble_eq_true rfl) cX_ok h (fun r1 h2 h => ?_) (fun E h2 h => ?_)
  · refine Wq.i2l dL_quit_7 ?_
    refine Wq.last dL_quit_8 ?_
    refine Wq.goto (tgt := 18) dL_quit_9 (by decide) ?_
    refine Wq.iconst (v := 0) dL_quit_18 (by decide) ?_
    exact Wq.iret dL_quit_19 (⟨_, rfl, rfl⟩) h
  · rcases cX_E h with ⟨rfl, h⟩ | ⟨rfl, h⟩ | ⟨rfl, h⟩
    · refine ⟨[(0, 9, 12, 22)], [], (0, 9, 15, 13), 3, 1, rfl, by decide, fun z hz => by rw [List.mem_singleton.mp hz]; exact Or.inr ⟨by decide, _, cl_L_22, by decide⟩, rfl, by decide, cl_L_13, by decide, Or.inl ⟨3, rfl, rfl, dL_quit_15⟩, ?_⟩
      refine Wq.iconst (v := 2) dL_quit_16 (by decide) ?_
      exact Wq.iret dL_quit_17 (⟨_, rfl, rfl⟩) h
    · exact h.elim
    · refine ⟨[], [(0, 9, 15, 13)], (0, 9, 12, 22), 3, 1, rfl, by decide, fun z hz => absurd hz List.not_mem_nil, rfl, by decide, cl_L_22, by decide, Or.inl ⟨3, rfl, rfl, dL_quit_12⟩, ?_⟩
      refine Wq.iconst (v := 1) dL_quit_13 (by decide) ?_
      exact Wq.iret dL_quit_14 (⟨_, rfl, rfl⟩) h
set_option maxHeartbeats 4000000 in
set_option maxRecDepth 20000 in
theorem sgL_run {g : GG} {d : Nat} {c n : Nat} {m : PM} {Q : Ou → PM → Nat → Nat → Prop}  (h : Wq g (d + 7) MX4_run 1 6 0 [some (pO 10 8 0)] [] m (fun o m9 c9 n9 => c9 = 1 ∧ n9 = 6 ∧ cX (fun r1 h2 => Q (.inl (some (pI 0))) (setL h2 0 (Int32.toInt64 r1)) c n) (fun h2 => False) (fun h2 => Q (.inl (some (pI 1))) h2 c n) (fun h2 => False) o m9)) : Wq g (d + 8) ML_run (c + 1) (n + 6) 0 [some (pO 10 8 0), some (pO 40 10 0)] [] m Q := by
  refine Wq.few (ls' := [some (pO 10 8 0), some (pO 40 10 0), none]) ⟨rfl, ⟨rfl, trivial⟩⟩ ?_
  refine Wq.aload_n (t := 40) (r := 10) (j := 0) dL_run_0 rfl ?_
  refine Wq.iconst (v := 0) dL_run_1 (by decide) ?_
  refine Wq.aload_n (t := 10) (r := 8) (j := 0) dL_run_2 rfl ?_
  refine Wq.callX (As := []) dL_run_3 fX4_run ml_L_46 rfl (by decide) rfl (Nat.le_of_ble_eq_true rfl) (Nat.le_of_ble_eq_true rfl) cX_ok h (fun r1 h2 h => ?_) (fun E h2 h => ?_)
  · refine Wq.i2l dL_run_6 ?_
    refine Wq.last dL_run_7 ?_
    refine Wq.goto (tgt := 14) dL_run_8 (by decide) ?_
    refine Wq.iconst (v := 0) dL_run_14 (by decide) ?_
    exact Wq.iret dL_run_15 (⟨_, rfl, rfl⟩) h
  · rcases cX_E h with ⟨rfl, h⟩ | ⟨rfl, h⟩ | ⟨rfl, h⟩
    · exact h.elim
    · refine ⟨[], [], (0, 8, 11, 31), 2, 1, rfl, by decide, fun z hz => absurd hz List.not_mem_nil, rfl, by decide, cl_L_31, by decide, Or.inl ⟨2, rfl, rfl, dL_run_11⟩, ?_⟩
      refine Wq.iconst (v := 1) dL_run_12 (by decide) ?_
      exact Wq.iret dL_run_13 (⟨_, rfl, rfl⟩) h
    · exact h.elim
set_option maxHeartbeats 4000000 in
set_option maxRecDepth 20000 in
theorem sgL_set {g : GG} {d : Nat} {c n : Nat} {m : PM} {Q : Ou → PM → Nat → Nat → Prop} {x1 : Int32} {x2 : Int32} (h : Wq g (d + 6) MX4_set 1 6 0 [some (pO 10 8 0), some (pI x1), some (pI x2)] [] m (fun o m9 c9 n9 => c9 = 1 ∧ n9 = 6 ∧ cX (fun r1 h2 => Q (.inl (some (pI 0))) (setL h2 0 (Int32.toInt64 r1)) c n) (fun h2 => False) (fun h2 => Q (.inl (some (pI 2))) h2 c n) (fun h2 => Q (.inl (some (pI 1))) h2 c n) o m9)) : Wq g (d + 7) ML_set (c + 1) (n + 6) 0 [some (pO 10 8 0), some (pI x1), some (pI x2), some (pO 40 10 0)] [] m Q := by
  refine Wq.few (ls' := [some (pO 10 8 0), some (pI x1), some (pI x2), some (pO 40 10 0), none]) ⟨rfl, ⟨rfl, ⟨rfl, ⟨rfl, trivial⟩⟩⟩⟩ ?_
  refine Wq.aload_n (t := 40) (r := 10) (j := 0) dL_set_0 rfl ?_
  refine Wq.iconst (v := 0) dL_set_1 (by decide) ?_
  refine Wq.aload_n (t := 10) (r := 8) (j := 0) dL_set_2 rfl ?_
  refine Wq.iload_n (x := x1) dL_set_3 rfl ?_
  refine Wq.iload_n (x := x2) dL_set_4 rfl ?_
  refine Wq.callX (As := [pI x1, pI x2]) dL_set_5 fX4_set ml_L_40 rfl (by decide) rfl (Nat.le_of_ble_eq_true rfl) (Nat.le_of_ble_eq_true rfl) cX_ok h (fun r1 h2 h => ?_) (fun E h2 h => ?_)
  · refine Wq.i2l dL_set_8 ?_
    refine Wq.last dL_set_9 ?_
    refine Wq.goto (tgt := 21) dL_set_10 (by decide) ?_
    refine Wq.iconst (v := 0) dL_set_21 (by decide) ?_
    exact Wq.iret dL_set_22 (⟨_, rfl, rfl⟩) h
  · rcases cX_E h with ⟨rfl, h⟩ | ⟨rfl, h⟩ | ⟨rfl, h⟩
    · exact h.elim
    · refine ⟨[(0, 10, 13, 22)], [], (0, 10, 17, 31), 4, 2, rfl, by decide, fun z hz => by rw [List.mem_singleton.mp hz]; exact Or.inr ⟨by decide, _, cl_L_22, by decide⟩, rfl, by decide, cl_L_31, by decide, Or.inr ⟨rfl, dL_set_17⟩, ?_⟩
      refine Wq.iconst (v := 2) dL_set_19 (by decide) ?_
      exact Wq.iret dL_set_20 (⟨_, rfl, rfl⟩) h
    · refine ⟨[], [(0, 10, 17, 31)], (0, 10, 13, 22), 4, 2, rfl, by decide, fun z hz => absurd hz List.not_mem_nil, rfl, by decide, cl_L_22, by decide, Or.inr ⟨rfl, dL_set_13⟩, ?_⟩
      refine Wq.iconst (v := 1) dL_set_15 (by decide) ?_
      exact Wq.iret dL_set_16 (⟨_, rfl, rfl⟩) h
set_option maxHeartbeats 4000000 in
set_option maxRecDepth 20000 in
theorem sgL_setting {g : GG} {d : Nat} {c n : Nat} {m : PM} {Q : Ou → PM → Nat → Nat → Prop} {x1 : Int32} (h : Wq g (d + 6) MX4_setting 1 6 0 [some (pO 10 8 0), some (pI x1)] [] m (fun o m9 c9 n9 => c9 = 1 ∧ n9 = 6 ∧ cX (fun r1 h2 => Q (.inl (some (pI 0))) (setL h2 0 (Int32.toInt64 r1)) c n) (fun h2 => False) (fun h2 => False) (fun h2 => Q (.inl (some (pI 1))) h2 c n) o m9)) : Wq g (d + 7) ML_setting (c + 1) (n + 6) 0 [some (pO 10 8 0), some (pI x1), some (pO 40 10 0)] [] m Q := by
  refine Wq.few (ls' := [some (pO 10 8 0), some (pI x1), some (pO 40 10 0), none]) ⟨rfl, ⟨rfl, ⟨rfl, trivial⟩⟩⟩ ?_
  refine Wq.aload_n (t := 40) (r := 10) (j := 0) dL_setting_0 rfl ?_
  refine Wq.iconst (v := 0) dL_setting_1 (by decide) ?_
  refine Wq.aload_n (t := 10) (r := 8) (j := 0) dL_setting_2 rfl ?_
  refine Wq.iload_n (x := x1) dL_setting_3 rfl ?_
  refine Wq.callX (As := [pI x1]) dL_setting_4 fX4_setting ml_L_65 rfl (by decide) rfl (Nat.le_of_ble_eq_true rfl) (Nat.le_of_ble_eq_true rfl) cX_ok h (fun r1 h2 h => ?_) (fun E h2 h => ?_)
  · refine Wq.i2l dL_setting_7 ?_
    refine Wq.last dL_setting_8 ?_
    refine Wq.goto (tgt := 15) dL_setting_9 (by decide) ?_
    refine Wq.iconst (v := 0) dL_setting_15 (by decide) ?_
    exact Wq.iret dL_setting_16 (⟨_, rfl, rfl⟩) h
  · rcases cX_E h with ⟨rfl, h⟩ | ⟨rfl, h⟩ | ⟨rfl, h⟩
    · exact h.elim
    · exact h.elim
    · refine ⟨[], [], (0, 9, 12, 22), 3, 1, rfl, by decide, fun z hz => absurd hz List.not_mem_nil, rfl, by decide, cl_L_22, by decide, Or.inl ⟨3, rfl, rfl, dL_setting_12⟩, ?_⟩
      refine Wq.iconst (v := 1) dL_setting_13 (by decide) ?_
      exact Wq.iret dL_setting_14 (⟨_, rfl, rfl⟩) h
set_option maxHeartbeats 4000000 in
set_option maxRecDepth 20000 in
theorem sgL_slot {g : GG} {d : Nat} {c n : Nat} {m : PM} {Q : Ou → PM → Nat → Nat → Prop} {x1 : Int32} {x2 : Int32} {x3 : Int32} (h : Wq g (d + 6) MX4_slot 1 6 0 [some (pO 10 8 0), some (pI x1), some (pI x2), some (pI x3)] [] m (fun o m9 c9 n9 => c9 = 1 ∧ n9 = 6 ∧ cX (fun r1 h2 => Q (.inl (some (pI 0))) (setL h2 0 (Int32.toInt64 r1)) c n) (fun h2 => False) (fun h2 => Q (.inl (some (pI 2))) h2 c n) (fun h2 => Q (.inl (some (pI 1))) h2 c n) o m9)) : Wq g (d + 7) ML_slot (c + 1) (n + 6) 0 [some (pO 10 8 0), some (pI x1), some (pI x2), some (pI x3), some (pO 40 10 0)] [] m Q := by
  refine Wq.few (ls' := [some (pO 10 8 0), some (pI x1), some (pI x2), some (pI x3), some (pO 40 10 0), none]) ⟨rfl, ⟨rfl, ⟨rfl, ⟨rfl, ⟨rfl, trivial⟩⟩⟩⟩⟩ ?_
  refine Wq.aload (t := 40) (r := 10) (j := 0) dL_slot_0 rfl ?_
  refine Wq.iconst (v := 0) dL_slot_2 (by decide) ?_
  refine Wq.aload_n (t := 10) (r := 8) (j := 0) dL_slot_3 rfl ?_
  refine Wq.iload_n (x := x1) dL_slot_4 rfl ?_
  refine Wq.iload_n (x := x2) dL_slot_5 rfl ?_
  refine Wq.iload_n (x := x3) dL_slot_6 rfl ?_
  refine Wq.callX (As := [pI x1, pI x2, pI x3]) dL_slot_7 fX4_slot ml_L_58 rfl (by decide) rfl (Nat.le_of_ble_eq_true rfl) (Nat.le_of_ble_eq_true rfl) cX_ok h (fun r1 h2 h => ?_) (fun E h2 h => ?_)
  · refine Wq.i2l dL_slot_10 ?_
    refine Wq.last dL_slot_11 ?_
    refine Wq.goto (tgt := 23) dL_slot_12 (by decide) ?_
    refine Wq.iconst (v := 0) dL_slot_23 (by decide) ?_
    exact Wq.iret dL_slot_24 (⟨_, rfl, rfl⟩) h
  · rcases cX_E h with ⟨rfl, h⟩ | ⟨rfl, h⟩ | ⟨rfl, h⟩
    · exact h.elim
    · refine ⟨[(0, 12, 15, 22)], [], (0, 12, 19, 31), 5, 2, rfl, by decide, fun z hz => by rw [List.mem_singleton.mp hz]; exact Or.inr ⟨by decide, _, cl_L_22, by decide⟩, rfl, by decide, cl_L_31, by decide, Or.inr ⟨rfl, dL_slot_19⟩, ?_⟩
      refine Wq.iconst (v := 2) dL_slot_21 (by decide) ?_
      exact Wq.iret dL_slot_22 (⟨_, rfl, rfl⟩) h
    · refine ⟨[], [(0, 12, 19, 31)], (0, 12, 15, 22), 5, 2, rfl, by decide, fun z hz => absurd hz List.not_mem_nil, rfl, by decide, cl_L_22, by decide, Or.inr ⟨rfl, dL_slot_15⟩, ?_⟩
      refine Wq.iconst (v := 1) dL_slot_17 (by decide) ?_
      exact Wq.iret dL_slot_18 (⟨_, rfl, rfl⟩) h
set_option maxHeartbeats 4000000 in
set_option maxRecDepth 20000 in
theorem sgL_test {g : GG} {d : Nat} {c n : Nat} {m : PM} {Q : Ou → PM → Nat → Nat → Prop} {x1 : Int32} {x2 : Int32} (h : Wq g (d + 6) MX4_test 1 6 0 [some (pO 10 8 0), some (pI x1), some (pI x2)] [] m (fun o m9 c9 n9 => c9 = 1 ∧ n9 = 6 ∧ cX (fun r1 h2 => Q (.inl (some (pI 0))) (setL h2 0 (Int32.toInt64 r1)) c n) (fun h2 => Q (.inl (some (pI 2))) h2 c n) (fun h2 => False) (fun h2 => Q (.inl (some (pI 1))) h2 c n) o m9)) : Wq g (d + 7) ML_test (c + 1) (n + 6) 0 [some (pO 10 8 0), some (pI x1), some (pI x2), some (pO 40 10 0)] [] m Q := by
  refine Wq.few (ls' := [some (pO 10 8 0), some (pI x1), some (pI x2), some (pO 40 10 0), none]) ⟨rfl, ⟨rfl, ⟨rfl, ⟨rfl, trivial⟩⟩⟩⟩ ?_
  refine Wq.aload_n (t := 40) (r := 10) (j := 0) dL_test_0 rfl ?_
  refine Wq.iconst (v := 0) dL_test_1 (by decide) ?_
  refine Wq.aload_n (t := 10) (r := 8) (j := 0) dL_test_2 rfl ?_
  refine Wq.iload_n (x := x1) dL_test_3 rfl ?_
  refine Wq.iload_n (x := x2) dL_test_4 rfl ?_
  refine Wq.callX (As := [pI x1, pI x2]) dL_test_5 fX4_test ml_L_33 rfl (by decide) rfl (Nat.le_of_ble_eq_true rfl) (Nat.le_of_ble_eq_true rfl) cX_ok h (fun r1 h2 h => ?_) (fun E h2 h => ?_)
  · refine Wq.i2l dL_test_8 ?_
    refine Wq.last dL_test_9 ?_
    refine Wq.goto (tgt := 21) dL_test_10 (by decide) ?_
    refine Wq.iconst (v := 0) dL_test_21 (by decide) ?_
    exact Wq.iret dL_test_22 (⟨_, rfl, rfl⟩) h
  · rcases cX_E h with ⟨rfl, h⟩ | ⟨rfl, h⟩ | ⟨rfl, h⟩
    · refine ⟨[(0, 10, 13, 22)], [], (0, 10, 17, 13), 4, 2, rfl, by decide, fun z hz => by rw [List.mem_singleton.mp hz]; exact Or.inr ⟨by decide, _, cl_L_22, by decide⟩, rfl, by decide, cl_L_13, by decide, Or.inr ⟨rfl, dL_test_17⟩, ?_⟩
      refine Wq.iconst (v := 2) dL_test_19 (by decide) ?_
      exact Wq.iret dL_test_20 (⟨_, rfl, rfl⟩) h
    · exact h.elim
    · refine ⟨[], [(0, 10, 17, 13)], (0, 10, 13, 22), 4, 2, rfl, by decide, fun z hz => absurd hz List.not_mem_nil, rfl, by decide, cl_L_22, by decide, Or.inr ⟨rfl, dL_test_13⟩, ?_⟩
      refine Wq.iconst (v := 1) dL_test_15 (by decide) ?_
      exact Wq.iret dL_test_16 (⟨_, rfl, rfl⟩) h
set_option maxHeartbeats 4000000 in
set_option maxRecDepth 20000 in
theorem sgL_undo {g : GG} {d : Nat} {c n : Nat} {m : PM} {Q : Ou → PM → Nat → Nat → Prop}  (h : Wq g (d + 6) MX4_undo 1 6 0 [some (pO 10 8 0)] [] m (fun o m9 c9 n9 => c9 = 1 ∧ n9 = 6 ∧ cX (fun r1 h2 => Q (.inl (some (pI 0))) (setL h2 0 (Int32.toInt64 r1)) c n) (fun h2 => Q (.inl (some (pI 1))) h2 c n) (fun h2 => False) (fun h2 => False) o m9)) : Wq g (d + 7) ML_undo (c + 1) (n + 6) 0 [some (pO 10 8 0), some (pO 40 10 0)] [] m Q := by
  refine Wq.few (ls' := [some (pO 10 8 0), some (pO 40 10 0), none]) ⟨rfl, ⟨rfl, trivial⟩⟩ ?_
  refine Wq.aload_n (t := 40) (r := 10) (j := 0) dL_undo_0 rfl ?_
  refine Wq.iconst (v := 0) dL_undo_1 (by decide) ?_
  refine Wq.aload_n (t := 10) (r := 8) (j := 0) dL_undo_2 rfl ?_
  refine Wq.callX (As := []) dL_undo_3 fX4_undo ml_L_49 rfl (by decide) rfl (Nat.le_of_ble_eq_true rfl) (Nat.le_of_ble_eq_true rfl) cX_ok h (fun r1 h2 h => ?_) (fun E h2 h => ?_)
  · refine Wq.i2l dL_undo_6 ?_
    refine Wq.last dL_undo_7 ?_
    refine Wq.goto (tgt := 14) dL_undo_8 (by decide) ?_
    refine Wq.iconst (v := 0) dL_undo_14 (by decide) ?_
    exact Wq.iret dL_undo_15 (⟨_, rfl, rfl⟩) h
  · rcases cX_E h with ⟨rfl, h⟩ | ⟨rfl, h⟩ | ⟨rfl, h⟩
    · refine ⟨[], [], (0, 8, 11, 13), 2, 1, rfl, by decide, fun z hz => absurd hz List.not_mem_nil, rfl, by decide, cl_L_13, by decide, Or.inl ⟨2, rfl, rfl, dL_undo_11⟩, ?_⟩
      refine Wq.iconst (v := 1) dL_undo_12 (by decide) ?_
      exact Wq.iret dL_undo_13 (⟨_, rfl, rfl⟩) h
    · exact h.elim
    · exact h.elim
set_option maxHeartbeats 4000000 in
set_option maxRecDepth 20000 in
theorem sgL_law_23 {g : GG} {d : Nat} {c n : Nat} {m : PM} {Q : Ou → PM → Nat → Nat → Prop} {x4 : Int32} (h : ((((nI (gL g)) - 4) < x4 → Q (.inl (some (pI 1))) m (c + 1) (n + 6)) ∧ (¬ ((nI (gL g)) - 4) < x4 → (vp_in x4 (gL g) ∧ ((((gx g (ix x4)) &&& 31) = 0 → Wq g (d + 8) ML_addExaminer 1 6 0 [some (pO 10 8 0), some (pO 40 10 0)] [] m (fun o m9 c9 n9 => c9 = 0 ∧ n9 = 0 ∧ cI (fun r3 h4 => Wp g (d + 8) MX5_addExaminer 0 [some (pO 20 9 0)] [] h4 (cI fun r5 h6 => (((h6.1 9 20 0 0) = r3 → ((¬ r3 = 0 → Wq g (d + 9) ML_law c n 23 [some (pO 41 10 0), some (pO 10 8 0), some (pO 20 9 0), some (pO 40 10 0), some (pI (x4 + 4)), none, none, none, none] [] h6 Q) ∧ (r3 = 0 → (((lg_cmp (h6.2 0) (Int32.toInt64 r5)) = 0 → Wq g (d + 9) ML_law c n 23 [some (pO 41 10 0), some (pO 10 8 0), some (pO 20 9 0), some (pO 40 10 0), some (pI (x4 + 4)), none, none, none, none] [] h6 Q) ∧ (¬ (lg_cmp (h6.2 0) (Int32.toInt64 r5)) = 0 → Q (.inl (some (pI 0))) h6 c n))))) ∧ (¬ (h6.1 9 20 0 0) = r3 → Q (.inl (some (pI 0))) h6 c n)))) o m9)) ∧ (¬ ((gx g (ix x4)) &&& 31) = 0 → ((((gx g (ix x4)) &&& 31) = 1 → Wq g (d + 8) ML_addPupil 1 6 0 [some (pO 10 8 0), some (pO 40 10 0)] [] m (fun o m9 c9 n9 => c9 = 0 ∧ n9 = 0 ∧ cI (fun r12 h13 => Wp g (d + 8) MX5_addPupil 0 [some (pO 20 9 0)] [] h13 (cI fun r14 h15 => (((h15.1 9 20 0 0) = r12 → ((¬ r12 = 0 → Wq g (d + 9) ML_law c n 23 [some (pO 41 10 0), some (pO 10 8 0), some (pO 20 9 0), some (pO 40 10 0), some (pI (x4 + 4)), none, none, none, none] [] h15 Q) ∧ (r12 = 0 → (((lg_cmp (h15.2 0) (Int32.toInt64 r14)) = 0 → Wq g (d + 9) ML_law c n 23 [some (pO 41 10 0), some (pO 10 8 0), some (pO 20 9 0), some (pO 40 10 0), some (pI (x4 + 4)), none, none, none, none] [] h15 Q) ∧ (¬ (lg_cmp (h15.2 0) (Int32.toInt64 r14)) = 0 → Q (.inl (some (pI 0))) h15 c n))))) ∧ (¬ (h15.1 9 20 0 0) = r12 → Q (.inl (some (pI 0))) h15 c n)))) o m9)) ∧ (¬ ((gx g (ix x4)) &&& 31) = 1 → ((((gx g (ix x4)) &&& 31) = 2 → (vp_in (x4 + 1) (gL g) ∧ Wq g (d + 8) ML_ask 1 6 0 [some (pO 10 8 0), some (pI (gx g (ix (x4 + 1)))), some (pO 40 10 0)] [] m (fun o m9 c9 n9 => c9 = 0 ∧ n9 = 0 ∧ cI (fun r21 h22 => (vp_in (x4 + 1) (gL g) ∧ Wp g (d + 8) MX5_ask 0 [some (pO 20 9 0), some (pI (gx g (ix (x4 + 1))))] [] h22 (cI fun r23 h24 => (((h24.1 9 20 0 0) = r21 → ((¬ r21 = 0 → Wq g (d + 9) ML_law c n 23 [some (pO 41 10 0), some (pO 10 8 0), some (pO 20 9 0), some (pO 40 10 0), some (pI (x4 + 4)), none, none, none, none] [] h24 Q) ∧ (r21 = 0 → (((lg_cmp (h24.2 0) (Int32.toInt64 r23)) = 0 → Wq g (d + 9) ML_law c n 23 [some (pO 41 10 0), some (pO 10 8 0), some (pO 20 9 0), some (pO 40 10 0), some (pI (x4 + 4)), none, none, none, none] [] h24 Q) ∧ (¬ (lg_cmp (h24.2 0) (Int32.toInt64 r23)) = 0 → Q (.inl (some (pI 0))) h24 c n))))) ∧ (¬ (h24.1 9 20 0 0) = r21 → Q (.inl (some (pI 0))) h24 c n))))) o m9))) ∧ (¬ ((gx g (ix x4)) &&& 31) = 2 → ((((gx g (ix x4)) &&& 31) = 3 → (vp_in (x4 + 1) (gL g) ∧ Wq g (d + 8) ML_quit 1 6 0 [some (pO 10 8 0), some (pI (gx g (ix (x4 + 1)))), some (pO 40 10 0)] [] m (fun o m9 c9 n9 => c9 = 0 ∧ n9 = 0 ∧ cI (fun r30 h31 => (vp_in (x4 + 1) (gL g) ∧ Wp g (d + 8) MX5_quit 0 [some (pO 20 9 0), some (pI (gx g (ix (x4 + 1))))] [] h31 (cI fun r32 h33 => (((h33.1 9 20 0 0) = r30 → ((¬ r30 = 0 → Wq g (d + 9) ML_law c n 23 [some (pO 41 10 0), some (pO 10 8 0), some (pO 20 9 0), some (pO 40 10 0), some (pI (x4 + 4)), none, none, none, none] [] h33 Q) ∧ (r30 = 0 → (((lg_cmp (h33.2 0) (Int32.toInt64 r32)) = 0 → Wq g (d + 9) ML_law c n 23 [some (pO 41 10 0), some (pO 10 8 0), some (pO 20 9 0), some (pO 40 10 0), some (pI (x4 + 4)), none, none, none, none] [] h33 Q) ∧ (¬ (lg_cmp (h33.2 0) (Int32.toInt64 r32)) = 0 → Q (.inl (some (pI 0))) h33 c n))))) ∧ (¬ (h33.1 9 20 0 0) = r30 → Q (.inl (some (pI 0))) h33 c n))))) o m9))) ∧ (¬ ((gx g (ix x4)) &&& 31) = 3 → ((((gx g (ix x4)) &&& 31) = 4 → (vp_in (x4 + 1) (gL g) ∧ (vp_in (x4 + 2) (gL g) ∧ Wq g (d + 8) ML_cancel 1 6 0 [some (pO 10 8 0), some (pI (gx g (ix (x4 + 1)))), some (pI (gx g (ix (x4 + 2)))), some (pO 40 10 0)] [] m (fun o m9 c9 n9 => c9 = 0 ∧ n9 = 0 ∧ cI (fun r39 h40 => (vp_in (x4 + 1) (gL g) ∧ (vp_in (x4 + 2) (gL g) ∧ Wp g (d + 8) MX5_cancel 0 [some (pO 20 9 0), some (pI (gx g (ix (x4 + 1)))), some (pI (gx g (ix (x4 + 2))))] [] h40 (cI fun r41 h42 => (((h42.1 9 20 0 0) = r39 → ((¬ r39 = 0 → Wq g (d + 9) ML_law c n 23 [some (pO 41 10 0), some (pO 10 8 0), some (pO 20 9 0), some (pO 40 10 0), some (pI (x4 + 4)), none, none, none, none] [] h42 Q) ∧ (r39 = 0 → (((lg_cmp (h42.2 0) (Int32.toInt64 r41)) = 0 → Wq g (d + 9) ML_law c n 23 [some (pO 41 10 0), some (pO 10 8 0), some (pO 20 9 0), some (pO 40 10 0), some (pI (x4 + 4)), none, none, none, none] [] h42 Q) ∧ (¬ (lg_cmp (h42.2 0) (Int32.toInt64 r41)) = 0 → Q (.inl (some (pI 0))) h42 c n))))) ∧ (¬ (h42.1 9 20 0 0) = r39 → Q (.inl (some (pI 0))) h42 c n)))))) o m9)))) ∧ (¬ ((gx g (ix x4)) &&& 31) = 4 → ((((gx g (ix x4)) &&& 31) = 5 → (vp_in (x4 + 1) (gL g) ∧ (vp_in (x4 + 2) (gL g) ∧ (((gx g (ix (x4 + 2))) = 0 → Wq g (d + 8) ML_test 1 6 0 [some (pO 10 8 0), some (pI (gx g (ix (x4 + 1)))), some (pI 0), some (pO 40 10 0)] [] m (fun o m9 c9 n9 => c9 = 0 ∧ n9 = 0 ∧ cI (fun r49 h50 => (vp_in (x4 + 1) (gL g) ∧ (vp_in (x4 + 2) (gL g) ∧ (((gx g (ix (x4 + 2))) = 0 → Wp g (d + 8) MX5_test 0 [some (pO 20 9 0), some (pI (gx g (ix (x4 + 1)))), some (pI 0)] [] h50 (cI fun r52 h53 => (((h53.1 9 20 0 0) = r49 → ((¬ r49 = 0 → Wq g (d + 9) ML_law c n 23 [some (pO 41 10 0), some (pO 10 8 0), some (pO 20 9 0), some (pO 40 10 0), some (pI (x4 + 4)), none, none, none, none] [] h53 Q) ∧ (r49 = 0 → (((lg_cmp (h53.2 0) (Int32.toInt64 r52)) = 0 → Wq g (d + 9) ML_law c n 23 [some (pO 41 10 0), some (pO 10 8 0), some (pO 20 9 0), some (pO 40 10 0), some (pI (x4 + 4)), none, none, none, none] [] h53 Q) ∧ (¬ (lg_cmp (h53.2 0) (Int32.toInt64 r52)) = 0 → Q (.inl (some (pI 0))) h53 c n))))) ∧ (¬ (h53.1 9 20 0 0) = r49 → Q (.inl (some (pI 0))) h53 c n)))) ∧ (¬ (gx g (ix (x4 + 2))) = 0 → Wp g (d + 8) MX5_test 0 [some (pO 20 9 0), some (pI (gx g (ix (x4 + 1)))), some (pI 1)] [] h50 (cI fun r58 h59 => (((h59.1 9 20 0 0) = r49 → ((¬ r49 = 0 → Wq g (d + 9) ML_law c n 23 [some (pO 41 10 0), some (pO 10 8 0), some (pO 20 9 0), some (pO 40 10 0), some (pI (x4 + 4)), none, none, none, none] [] h59 Q) ∧ (r49 = 0 → (((lg_cmp (h59.2 0) (Int32.toInt64 r58)) = 0 → Wq g (d + 9) ML_law c n 23 [some (pO 41 10 0), some (pO 10 8 0), some (pO 20 9 0), some (pO 40 10 0), some (pI (x4 + 4)), none, none, none, none] [] h59 Q) ∧ (¬ (lg_cmp (h59.2 0) (Int32.toInt64 r58)) = 0 → Q (.inl (some (pI 0))) h59 c n))))) ∧ (¬ (h59.1 9 20 0 0) = r49 → Q (.inl (some (pI 0))) h59 c n)))))))) o m9)) ∧ (¬ (gx g (ix (x4 + 2))) = 0 → Wq g (d + 8) ML_test 1 6 0 [some (pO 10 8 0), some (pI (gx g (ix (x4 + 1)))), some (pI 1), some (pO 40 10 0)] [] m (fun o m9 c9 n9 => c9 = 0 ∧ n9 = 0 ∧ cI (fun r64 h65 => (vp_in (x4 + 1) (gL g) ∧ (vp_in (x4 + 2) (gL g) ∧ (((gx g (ix (x4 + 2))) = 0 → Wp g (d + 8) MX5_test 0 [some (pO 20 9 0), some (pI (gx g (ix (x4 + 1)))), some (pI 0)] [] h65 (cI fun r67 h68 => (((h68.1 9 20 0 0) = r64 → ((¬ r64 = 0 → Wq g (d + 9) ML_law c n 23 [some (pO 41 10 0), some (pO 10 8 0), some (pO 20 9 0), some (pO 40 10 0), some (pI (x4 + 4)), none, none, none, none] [] h68 Q) ∧ (r64 = 0 → (((lg_cmp (h68.2 0) (Int32.toInt64 r67)) = 0 → Wq g (d + 9) ML_law c n 23 [some (pO 41 10 0), some (pO 10 8 0), some (pO 20 9 0), some (pO 40 10 0), some (pI (x4 + 4)), none, none, none, none] [] h68 Q) ∧ (¬ (lg_cmp (h68.2 0) (Int32.toInt64 r67)) = 0 → Q (.inl (some (pI 0))) h68 c n))))) ∧ (¬ (h68.1 9 20 0 0) = r64 → Q (.inl (some (pI 0))) h68 c n)))) ∧ (¬ (gx g (ix (x4 + 2))) = 0 → Wp g (d + 8) MX5_test 0 [some (pO 20 9 0), some (pI (gx g (ix (x4 + 1)))), some (pI 1)] [] h65 (cI fun r73 h74 => (((h74.1 9 20 0 0) = r64 → ((¬ r64 = 0 → Wq g (d + 9) ML_law c n 23 [some (pO 41 10 0), some (pO 10 8 0), some (pO 20 9 0), some (pO 40 10 0), some (pI (x4 + 4)), none, none, none, none] [] h74 Q) ∧ (r64 = 0 → (((lg_cmp (h74.2 0) (Int32.toInt64 r73)) = 0 → Wq g (d + 9) ML_law c n 23 [some (pO 41 10 0), some (pO 10 8 0), some (pO 20 9 0), some (pO 40 10 0), some (pI (x4 + 4)), none, none, none, none] [] h74 Q) ∧ (¬ (lg_cmp (h74.2 0) (Int32.toInt64 r73)) = 0 → Q (.inl (some (pI 0))) h74 c n))))) ∧ (¬ (h74.1 9 20 0 0) = r64 → Q (.inl (some (pI 0))) h74 c n)))))))) o m9)))))) ∧ (¬ ((gx g (ix x4)) &&& 31) = 5 → ((((gx g (ix x4)) &&& 31) = 6 → Wq g (d + 8) ML_next 1 6 0 [some (pO 10 8 0), some (pO 40 10 0)] [] m (fun o m9 c9 n9 => c9 = 0 ∧ n9 = 0 ∧ cI (fun r80 h81 => Wp g (d + 8) MX5_next 0 [some (pO 20 9 0)] [] h81 (cI fun r82 h83 => (((h83.1 9 20 0 0) = r80 → ((¬ r80 = 0 → Wq g (d + 9) ML_law c n 23 [some (pO 41 10 0), some (pO 10 8 0), some (pO 20 9 0), some (pO 40 10 0), some (pI (x4 + 4)), none, none, none, none] [] h83 Q) ∧ (r80 = 0 → (((lg_cmp (h83.2 0) (Int32.toInt64 r82)) = 0 → Wq g (d + 9) ML_law c n 23 [some (pO 41 10 0), some (pO 10 8 0), some (pO 20 9 0), some (pO 40 10 0), some (pI (x4 + 4)), none, none, none, none] [] h83 Q) ∧ (¬ (lg_cmp (h83.2 0) (Int32.toInt64 r82)) = 0 → Q (.inl (some (pI 0))) h83 c n))))) ∧ (¬ (h83.1 9 20 0 0) = r80 → Q (.inl (some (pI 0))) h83 c n)))) o m9)) ∧ (¬ ((gx g (ix x4)) &&& 31) = 6 → ((((gx g (ix x4)) &&& 31) = 7 → (vp_in (x4 + 1) (gL g) ∧ (vp_in (x4 + 2) (gL g) ∧ Wq g (d + 8) ML_set 1 6 0 [some (pO 10 8 0), some (pI (gx g (ix (x4 + 1)))), some (pI (gx g (ix (x4 + 2)))), some (pO 40 10 0)] [] m (fun o m9 c9 n9 => c9 = 0 ∧ n9 = 0 ∧ cI (fun r89 h90 => (vp_in (x4 + 1) (gL g) ∧ (vp_in (x4 + 2) (gL g) ∧ Wp g (d + 8) MX5_set 0 [some (pO 20 9 0), some (pI (gx g (ix (x4 + 1)))), some (pI (gx g (ix (x4 + 2))))] [] h90 (cI fun r91 h92 => (((h92.1 9 20 0 0) = r89 → ((¬ r89 = 0 → Wq g (d + 9) ML_law c n 23 [some (pO 41 10 0), some (pO 10 8 0), some (pO 20 9 0), some (pO 40 10 0), some (pI (x4 + 4)), none, none, none, none] [] h92 Q) ∧ (r89 = 0 → (((lg_cmp (h92.2 0) (Int32.toInt64 r91)) = 0 → Wq g (d + 9) ML_law c n 23 [some (pO 41 10 0), some (pO 10 8 0), some (pO 20 9 0), some (pO 40 10 0), some (pI (x4 + 4)), none, none, none, none] [] h92 Q) ∧ (¬ (lg_cmp (h92.2 0) (Int32.toInt64 r91)) = 0 → Q (.inl (some (pI 0))) h92 c n))))) ∧ (¬ (h92.1 9 20 0 0) = r89 → Q (.inl (some (pI 0))) h92 c n)))))) o m9)))) ∧ (¬ ((gx g (ix x4)) &&& 31) = 7 → ((((gx g (ix x4)) &&& 31) = 8 → (vp_in (x4 + 1) (gL g) ∧ Wq g (d + 8) ML_append 1 6 0 [some (pO 10 8 0), some (pI (gx g (ix (x4 + 1)))), some (pO 40 10 0)] [] m (fun o m9 c9 n9 => c9 = 0 ∧ n9 = 0 ∧ cI (fun r98 h99 => (vp_in (x4 + 1) (gL g) ∧ Wp g (d + 8) MX5_append 0 [some (pO 20 9 0), some (pI (gx g (ix (x4 + 1))))] [] h99 (cI fun r100 h101 => (((h101.1 9 20 0 0) = r98 → ((¬ r98 = 0 → Wq g (d + 9) ML_law c n 23 [some (pO 41 10 0), some (pO 10 8 0), some (pO 20 9 0), some (pO 40 10 0), some (pI (x4 + 4)), none, none, none, none] [] h101 Q) ∧ (r98 = 0 → (((lg_cmp (h101.2 0) (Int32.toInt64 r100)) = 0 → Wq g (d + 9) ML_law c n 23 [some (pO 41 10 0), some (pO 10 8 0), some (pO 20 9 0), some (pO 40 10 0), some (pI (x4 + 4)), none, none, none, none] [] h101 Q) ∧ (¬ (lg_cmp (h101.2 0) (Int32.toInt64 r100)) = 0 → Q (.inl (some (pI 0))) h101 c n))))) ∧ (¬ (h101.1 9 20 0 0) = r98 → Q (.inl (some (pI 0))) h101 c n))))) o m9))) ∧ (¬ ((gx g (ix x4)) &&& 31) = 8 → ((((gx g (ix x4)) &&& 31) = 9 → Wp g (d + 8) MX4_clearBuffer 0 [some (pO 10 8 0)] [] m (cI fun r107 m108 => Wp g (d + 8) MX5_clearBuffer 0 [some (pO 20 9 0)] [] m108 (cI fun r109 m110 => ((r107 = r109 → Wq g (d + 9) ML_law (c + 1) (n + 6) 23 [some (pO 41 10 0), some (pO 10 8 0), some (pO 20 9 0), some (pO 40 10 0), some (pI (x4 + 4)), none, none, none, none] [] m110 Q) ∧ (¬ r107 = r109 → Q (.inl (some (pI 0))) m110 (c + 1) (n + 6)))))) ∧ (¬ ((gx g (ix x4)) &&& 31) = 9 → ((((gx g (ix x4)) &&& 31) = 10 → Wp g (d + 8) MX4_firstError 0 [some (pO 10 8 0)] [] m (cI fun r113 m114 => Wp g (d + 8) MX5_firstError 0 [some (pO 20 9 0)] [] m114 (cI fun r115 m116 => ((r113 = r115 → Wq g (d + 9) ML_law (c + 1) (n + 6) 23 [some (pO 41 10 0), some (pO 10 8 0), some (pO 20 9 0), some (pO 40 10 0), some (pI (x4 + 4)), none, none, none, none] [] m116 Q) ∧ (¬ r113 = r115 → Q (.inl (some (pI 0))) m116 (c + 1) (n + 6)))))) ∧ (¬ ((gx g (ix x4)) &&& 31) = 10 → ((((gx g (ix x4)) &&& 31) = 11 → Wq g (d + 8) ML_run 1 6 0 [some (pO 10 8 0), some (pO 40 10 0)] [] m (fun o m9 c9 n9 => c9 = 0 ∧ n9 = 0 ∧ cI (fun r119 h120 => Wp g (d + 8) MX5_run 0 [some (pO 20 9 0)] [] h120 (cI fun r121 h122 => (((h122.1 9 20 0 0) = r119 → ((¬ r119 = 0 → Wq g (d + 9) ML_law c n 23 [some (pO 41 10 0), some (pO 10 8 0), some (pO 20 9 0), some (pO 40 10 0), some (pI (x4 + 4)), none, none, none, none] [] h122 Q) ∧ (r119 = 0 → (((lg_cmp (h122.2 0) (Int32.toInt64 r121)) = 0 → Wq g (d + 9) ML_law c n 23 [some (pO 41 10 0), some (pO 10 8 0), some (pO 20 9 0), some (pO 40 10 0), some (pI (x4 + 4)), none, none, none, none] [] h122 Q) ∧ (¬ (lg_cmp (h122.2 0) (Int32.toInt64 r121)) = 0 → Q (.inl (some (pI 0))) h122 c n))))) ∧ (¬ (h122.1 9 20 0 0) = r119 → Q (.inl (some (pI 0))) h122 c n)))) o m9)) ∧ (¬ ((gx g (ix x4)) &&& 31) = 11 → ((((gx g (ix x4)) &&& 31) = 12 → Wq g (d + 8) ML_undo 1 6 0 [some (pO 10 8 0), some (pO 40 10 0)] [] m (fun o m9 c9 n9 => c9 = 0 ∧ n9 = 0 ∧ cI (fun r128 h129 => Wp g (d + 8) MX5_undo 0 [some (pO 20 9 0)] [] h129 (cI fun r130 h131 => (((h131.1 9 20 0 0) = r128 → ((¬ r128 = 0 → Wq g (d + 9) ML_law c n 23 [some (pO 41 10 0), some (pO 10 8 0), some (pO 20 9 0), some (pO 40 10 0), some (pI (x4 + 4)), none, none, none, none] [] h131 Q) ∧ (r128 = 0 → (((lg_cmp (h131.2 0) (Int32.toInt64 r130)) = 0 → Wq g (d + 9) ML_law c n 23 [some (pO 41 10 0), some (pO 10 8 0), some (pO 20 9 0), some (pO 40 10 0), some (pI (x4 + 4)), none, none, none, none] [] h131 Q) ∧ (¬ (lg_cmp (h131.2 0) (Int32.toInt64 r130)) = 0 → Q (.inl (some (pI 0))) h131 c n))))) ∧ (¬ (h131.1 9 20 0 0) = r128 → Q (.inl (some (pI 0))) h131 c n)))) o m9)) ∧ (¬ ((gx g (ix x4)) &&& 31) = 12 → ((((gx g (ix x4)) &&& 31) = 13 → (vp_in (x4 + 1) (gL g) ∧ (vp_in (x4 + 2) (gL g) ∧ Wq g (d + 8) ML_pupil 1 6 0 [some (pO 10 8 0), some (pI (gx g (ix (x4 + 1)))), some (pI (gx g (ix (x4 + 2)))), some (pO 40 10 0)] [] m (fun o m9 c9 n9 => c9 = 0 ∧ n9 = 0 ∧ cI (fun r137 h138 => (vp_in (x4 + 1) (gL g) ∧ (vp_in (x4 + 2) (gL g) ∧ Wp g (d + 8) MX5_pupil 0 [some (pO 20 9 0), some (pI (gx g (ix (x4 + 1)))), some (pI (gx g (ix (x4 + 2))))] [] h138 (cI fun r139 h140 => (((h140.1 9 20 0 0) = r137 → ((¬ r137 = 0 → Wq g (d + 9) ML_law c n 23 [some (pO 41 10 0), some (pO 10 8 0), some (pO 20 9 0), some (pO 40 10 0), some (pI (x4 + 4)), none, none, none, none] [] h140 Q) ∧ (r137 = 0 → (((lg_cmp (h140.2 0) (Int32.toInt64 r139)) = 0 → Wq g (d + 9) ML_law c n 23 [some (pO 41 10 0), some (pO 10 8 0), some (pO 20 9 0), some (pO 40 10 0), some (pI (x4 + 4)), none, none, none, none] [] h140 Q) ∧ (¬ (lg_cmp (h140.2 0) (Int32.toInt64 r139)) = 0 → Q (.inl (some (pI 0))) h140 c n))))) ∧ (¬ (h140.1 9 20 0 0) = r137 → Q (.inl (some (pI 0))) h140 c n)))))) o m9)))) ∧ (¬ ((gx g (ix x4)) &&& 31) = 13 → ((((gx g (ix x4)) &&& 31) = 14 → (vp_in (x4 + 1) (gL g) ∧ (vp_in (x4 + 2) (gL g) ∧ Wq g (d + 8) ML_examiner 1 6 0 [some (pO 10 8 0), some (pI (gx g (ix (x4 + 1)))), some (pI (gx g (ix (x4 + 2)))), some (pO 40 10 0)] [] m (fun o m9 c9 n9 => c9 = 0 ∧ n9 = 0 ∧ cI (fun r146 h147 => (vp_in (x4 + 1) (gL g) ∧ (vp_in (x4 + 2) (gL g) ∧ Wp g (d + 8) MX5_examiner 0 [some (pO 20 9 0), some (pI (gx g (ix (x4 + 1)))), some (pI (gx g (ix (x4 + 2))))] [] h147 (cI fun r148 h149 => (((h149.1 9 20 0 0) = r146 → ((¬ r146 = 0 → Wq g (d + 9) ML_law c n 23 [some (pO 41 10 0), some (pO 10 8 0), some (pO 20 9 0), some (pO 40 10 0), some (pI (x4 + 4)), none, none, none, none] [] h149 Q) ∧ (r146 = 0 → (((lg_cmp (h149.2 0) (Int32.toInt64 r148)) = 0 → Wq g (d + 9) ML_law c n 23 [some (pO 41 10 0), some (pO 10 8 0), some (pO 20 9 0), some (pO 40 10 0), some (pI (x4 + 4)), none, none, none, none] [] h149 Q) ∧ (¬ (lg_cmp (h149.2 0) (Int32.toInt64 r148)) = 0 → Q (.inl (some (pI 0))) h149 c n))))) ∧ (¬ (h149.1 9 20 0 0) = r146 → Q (.inl (some (pI 0))) h149 c n)))))) o m9)))) ∧ (¬ ((gx g (ix x4)) &&& 31) = 14 → ((((gx g (ix x4)) &&& 31) = 15 → (vp_in (x4 + 1) (gL g) ∧ (vp_in (x4 + 2) (gL g) ∧ (vp_in (x4 + 3) (gL g) ∧ Wq g (d + 8) ML_slot 1 6 0 [some (pO 10 8 0), some (pI (gx g (ix (x4 + 1)))), some (pI (gx g (ix (x4 + 2)))), some (pI (gx g (ix (x4 + 3)))), some (pO 40 10 0)] [] m (fun o m9 c9 n9 => c9 = 0 ∧ n9 = 0 ∧ cI (fun r155 h156 => (vp_in (x4 + 1) (gL g) ∧ (vp_in (x4 + 2) (gL g) ∧ (vp_in (x4 + 3) (gL g) ∧ Wp g (d + 8) MX5_slot 0 [some (pO 20 9 0), some (pI (gx g (ix (x4 + 1)))), some (pI (gx g (ix (x4 + 2)))), some (pI (gx g (ix (x4 + 3))))] [] h156 (cI fun r157 h158 => (((h158.1 9 20 0 0) = r155 → ((¬ r155 = 0 → Wq g (d + 9) ML_law c n 23 [some (pO 41 10 0), some (pO 10 8 0), some (pO 20 9 0), some (pO 40 10 0), some (pI (x4 + 4)), none, none, none, none] [] h158 Q) ∧ (r155 = 0 → (((lg_cmp (h158.2 0) (Int32.toInt64 r157)) = 0 → Wq g (d + 9) ML_law c n 23 [some (pO 41 10 0), some (pO 10 8 0), some (pO 20 9 0), some (pO 40 10 0), some (pI (x4 + 4)), none, none, none, none] [] h158 Q) ∧ (¬ (lg_cmp (h158.2 0) (Int32.toInt64 r157)) = 0 → Q (.inl (some (pI 0))) h158 c n))))) ∧ (¬ (h158.1 9 20 0 0) = r155 → Q (.inl (some (pI 0))) h158 c n))))))) o m9))))) ∧ (¬ ((gx g (ix x4)) &&& 31) = 15 → ((((gx g (ix x4)) &&& 31) = 16 → (vp_in (x4 + 1) (gL g) ∧ Wq g (d + 8) ML_count 1 6 0 [some (pO 10 8 0), some (pI (gx g (ix (x4 + 1)))), some (pO 40 10 0)] [] m (fun o m9 c9 n9 => c9 = 0 ∧ n9 = 0 ∧ cI (fun r164 h165 => (vp_in (x4 + 1) (gL g) ∧ Wp g (d + 8) MX5_count 0 [some (pO 20 9 0), some (pI (gx g (ix (x4 + 1))))] [] h165 (cI fun r166 h167 => (((h167.1 9 20 0 0) = r164 → ((¬ r164 = 0 → Wq g (d + 9) ML_law c n 23 [some (pO 41 10 0), some (pO 10 8 0), some (pO 20 9 0), some (pO 40 10 0), some (pI (x4 + 4)), none, none, none, none] [] h167 Q) ∧ (r164 = 0 → (((lg_cmp (h167.2 0) (Int32.toInt64 r166)) = 0 → Wq g (d + 9) ML_law c n 23 [some (pO 41 10 0), some (pO 10 8 0), some (pO 20 9 0), some (pO 40 10 0), some (pI (x4 + 4)), none, none, none, none] [] h167 Q) ∧ (¬ (lg_cmp (h167.2 0) (Int32.toInt64 r166)) = 0 → Q (.inl (some (pI 0))) h167 c n))))) ∧ (¬ (h167.1 9 20 0 0) = r164 → Q (.inl (some (pI 0))) h167 c n))))) o m9))) ∧ (¬ ((gx g (ix x4)) &&& 31) = 16 → ((((gx g (ix x4)) &&& 31) = 17 → (vp_in (x4 + 1) (gL g) ∧ Wq g (d + 8) ML_setting 1 6 0 [some (pO 10 8 0), some (pI (gx g (ix (x4 + 1)))), some (pO 40 10 0)] [] m (fun o m9 c9 n9 => c9 = 0 ∧ n9 = 0 ∧ cI (fun r173 h174 => (vp_in (x4 + 1) (gL g) ∧ Wp g (d + 8) MX5_setting 0 [some (pO 20 9 0), some (pI (gx g (ix (x4 + 1))))] [] h174 (cI fun r175 h176 => (((h176.1 9 20 0 0) = r173 → ((¬ r173 = 0 → Wq g (d + 9) ML_law c n 23 [some (pO 41 10 0), some (pO 10 8 0), some (pO 20 9 0), some (pO 40 10 0), some (pI (x4 + 4)), none, none, none, none] [] h176 Q) ∧ (r173 = 0 → (((lg_cmp (h176.2 0) (Int32.toInt64 r175)) = 0 → Wq g (d + 9) ML_law c n 23 [some (pO 41 10 0), some (pO 10 8 0), some (pO 20 9 0), some (pO 40 10 0), some (pI (x4 + 4)), none, none, none, none] [] h176 Q) ∧ (¬ (lg_cmp (h176.2 0) (Int32.toInt64 r175)) = 0 → Q (.inl (some (pI 0))) h176 c n))))) ∧ (¬ (h176.1 9 20 0 0) = r173 → Q (.inl (some (pI 0))) h176 c n))))) o m9))) ∧ (¬ ((gx g (ix x4)) &&& 31) = 17 → ((((gx g (ix x4)) &&& 31) = 18 → (vp_in (x4 + 1) (gL g) ∧ (vp_in (x4 + 2) (gL g) ∧ Wq g (d + 8) ML_earliest 1 6 0 [some (pO 10 8 0), some (pI (gx g (ix (x4 + 1)))), some (pI (gx g (ix (x4 + 2)))), some (pO 40 10 0)] [] m (fun o m9 c9 n9 => c9 = 0 ∧ n9 = 0 ∧ cI (fun r182 h183 => (vp_in (x4 + 1) (gL g) ∧ (vp_in (x4 + 2) (gL g) ∧ Wp g (d + 8) MX5_earliest 0 [some (pO 20 9 0), some (pI (gx g (ix (x4 + 1)))), some (pI (gx g (ix (x4 + 2))))] [] h183 (cI fun r184 h185 => (((h185.1 9 20 0 0) = r182 → ((¬ r182 = 0 → Wq g (d + 9) ML_law c n 23 [some (pO 41 10 0), some (pO 10 8 0), some (pO 20 9 0), some (pO 40 10 0), some (pI (x4 + 4)), none, none, none, none] [] h185 Q) ∧ (r182 = 0 → (((lg_cmp (h185.2 0) (Int32.toInt64 r184)) = 0 → Wq g (d + 9) ML_law c n 23 [some (pO 41 10 0), some (pO 10 8 0), some (pO 20 9 0), some (pO 40 10 0), some (pI (x4 + 4)), none, none, none, none] [] h185 Q) ∧ (¬ (lg_cmp (h185.2 0) (Int32.toInt64 r184)) = 0 → Q (.inl (some (pI 0))) h185 c n))))) ∧ (¬ (h185.1 9 20 0 0) = r182 → Q (.inl (some (pI 0))) h185 c n)))))) o m9)))) ∧ (¬ ((gx g (ix x4)) &&& 31) = 18 → ((((gx g (ix x4)) &&& 31) = 19 → (vp_in (x4 + 1) (gL g) ∧ (vp_in (x4 + 2) (gL g) ∧ (vp_in (x4 + 3) (gL g) ∧ Wq g (d + 8) ML_ifCancelled 1 6 0 [some (pO 10 8 0), some (pI (gx g (ix (x4 + 1)))), some (pI (gx g (ix (x4 + 2)))), some (pI (gx g (ix (x4 + 3)))), some (pO 40 10 0)] [] m (fun o m9 c9 n9 => c9 = 0 ∧ n9 = 0 ∧ cI (fun r191 h192 => (vp_in (x4 + 1) (gL g) ∧ (vp_in (x4 + 2) (gL g) ∧ (vp_in (x4 + 3) (gL g) ∧ Wp g (d + 8) MX5_ifCancelled 0 [some (pO 20 9 0), some (pI (gx g (ix (x4 + 1)))), some (pI (gx g (ix (x4 + 2)))), some (pI (gx g (ix (x4 + 3))))] [] h192 (cI fun r193 h194 => (((h194.1 9 20 0 0) = r191 → ((¬ r191 = 0 → Wq g (d + 9) ML_law c n 23 [some (pO 41 10 0), some (pO 10 8 0), some (pO 20 9 0), some (pO 40 10 0), some (pI (x4 + 4)), none, none, none, none] [] h194 Q) ∧ (r191 = 0 → (((lg_cmp (h194.2 0) (Int32.toInt64 r193)) = 0 → Wq g (d + 9) ML_law c n 23 [some (pO 41 10 0), some (pO 10 8 0), some (pO 20 9 0), some (pO 40 10 0), some (pI (x4 + 4)), none, none, none, none] [] h194 Q) ∧ (¬ (lg_cmp (h194.2 0) (Int32.toInt64 r193)) = 0 → Q (.inl (some (pI 0))) h194 c n))))) ∧ (¬ (h194.1 9 20 0 0) = r191 → Q (.inl (some (pI 0))) h194 c n))))))) o m9))))) ∧ (¬ ((gx g (ix x4)) &&& 31) = 19 → ((((gx g (ix x4)) &&& 31) = 20 → (vp_in (x4 + 1) (gL g) ∧ (vp_in (x4 + 2) (gL g) ∧ Wq g (d + 8) ML_ifTested 1 6 0 [some (pO 10 8 0), some (pI (gx g (ix (x4 + 1)))), some (pI (gx g (ix (x4 + 2)))), some (pO 40 10 0)] [] m (fun o m9 c9 n9 => c9 = 0 ∧ n9 = 0 ∧ cI (fun r200 h201 => (vp_in (x4 + 1) (gL g) ∧ (vp_in (x4 + 2) (gL g) ∧ Wp g (d + 8) MX5_ifTested 0 [some (pO 20 9 0), some (pI (gx g (ix (x4 + 1)))), some (pI (gx g (ix (x4 + 2))))] [] h201 (cI fun r202 h203 => (((h203.1 9 20 0 0) = r200 → ((¬ r200 = 0 → Wq g (d + 9) ML_law c n 23 [some (pO 41 10 0), some (pO 10 8 0), some (pO 20 9 0), some (pO 40 10 0), some (pI (x4 + 4)), none, none, none, none] [] h203 Q) ∧ (r200 = 0 → (((lg_cmp (h203.2 0) (Int32.toInt64 r202)) = 0 → Wq g (d + 9) ML_law c n 23 [some (pO 41 10 0), some (pO 10 8 0), some (pO 20 9 0), some (pO 40 10 0), some (pI (x4 + 4)), none, none, none, none] [] h203 Q) ∧ (¬ (lg_cmp (h203.2 0) (Int32.toInt64 r202)) = 0 → Q (.inl (some (pI 0))) h203 c n))))) ∧ (¬ (h203.1 9 20 0 0) = r200 → Q (.inl (some (pI 0))) h203 c n)))))) o m9)))) ∧ (¬ ((gx g (ix x4)) &&& 31) = 20 → ((((gx g (ix x4)) &&& 31) = 21 → (vp_in (x4 + 1) (gL g) ∧ Wq g (d + 8) ML_couldHave 1 6 0 [some (pO 10 8 0), some (pI (gx g (ix (x4 + 1)))), some (pO 40 10 0)] [] m (fun o m9 c9 n9 => c9 = 0 ∧ n9 = 0 ∧ cI (fun r209 h210 => (vp_in (x4 + 1) (gL g) ∧ Wp g (d + 8) MX5_couldHave 0 [some (pO 20 9 0), some (pI (gx g (ix (x4 + 1))))] [] h210 (cI fun r211 h212 => (((h212.1 9 20 0 0) = r209 → ((¬ r209 = 0 → Wq g (d + 9) ML_law c n 23 [some (pO 41 10 0), some (pO 10 8 0), some (pO 20 9 0), some (pO 40 10 0), some (pI (x4 + 4)), none, none, none, none] [] h212 Q) ∧ (r209 = 0 → (((lg_cmp (h212.2 0) (Int32.toInt64 r211)) = 0 → Wq g (d + 9) ML_law c n 23 [some (pO 41 10 0), some (pO 10 8 0), some (pO 20 9 0), some (pO 40 10 0), some (pI (x4 + 4)), none, none, none, none] [] h212 Q) ∧ (¬ (lg_cmp (h212.2 0) (Int32.toInt64 r211)) = 0 → Q (.inl (some (pI 0))) h212 c n))))) ∧ (¬ (h212.1 9 20 0 0) = r209 → Q (.inl (some (pI 0))) h212 c n))))) o m9))) ∧ (¬ ((gx g (ix x4)) &&& 31) = 21 → ((((gx g (ix x4)) &&& 31) = 22 → Wp g (d + 8) MX4_passedShare 0 [some (pO 10 8 0)] [] m (cD fun r218 m219 => Wp g (d + 8) MX5_passedShare 0 [some (pO 20 9 0)] [] m219 (cD fun r220 m221 => (((Op.cmpValue (FP.dcmp r218 r220) CmpOp.l) = 0 → Wq g (d + 9) ML_law (c + 1) (n + 6) 23 [some (pO 41 10 0), some (pO 10 8 0), some (pO 20 9 0), some (pO 40 10 0), some (pI (x4 + 4)), none, none, none, none] [] m221 Q) ∧ (¬ (Op.cmpValue (FP.dcmp r218 r220) CmpOp.l) = 0 → (((Op.cmpValue (FP.dcmp r218 r218) CmpOp.l) = 0 → Q (.inl (some (pI 0))) m221 (c + 1) (n + 6)) ∧ (¬ (Op.cmpValue (FP.dcmp r218 r218) CmpOp.l) = 0 → ((¬ (Op.cmpValue (FP.dcmp r220 r220) CmpOp.l) = 0 → Wq g (d + 9) ML_law (c + 1) (n + 6) 23 [some (pO 41 10 0), some (pO 10 8 0), some (pO 20 9 0), some (pO 40 10 0), some (pI (x4 + 4)), none, none, none, none] [] m221 Q) ∧ ((Op.cmpValue (FP.dcmp r220 r220) CmpOp.l) = 0 → Q (.inl (some (pI 0))) m221 (c + 1) (n + 6)))))))))) ∧ (¬ ((gx g (ix x4)) &&& 31) = 22 → ((((gx g (ix x4)) &&& 31) = 23 → Wp g (d + 8) MX4_digest 0 [some (pO 10 8 0)] [] m (cL fun r226 m227 => Wp g (d + 8) MX5_digest 0 [some (pO 20 9 0)] [] m227 (cL fun r228 m229 => (((lg_cmp r226 r228) = 0 → Wq g (d + 9) ML_law (c + 1) (n + 6) 23 [some (pO 41 10 0), some (pO 10 8 0), some (pO 20 9 0), some (pO 40 10 0), some (pI (x4 + 4)), none, none, none, none] [] m229 Q) ∧ (¬ (lg_cmp r226 r228) = 0 → Q (.inl (some (pI 0))) m229 (c + 1) (n + 6)))))) ∧ (¬ ((gx g (ix x4)) &&& 31) = 23 → Wq g (d + 9) ML_law (c + 1) (n + 6) 23 [some (pO 41 10 0), some (pO 10 8 0), some (pO 20 9 0), some (pO 40 10 0), some (pI (x4 + 4)), none, none, none, none] [] m Q)))))))))))))))))))))))))))))))))))))))))))))))))))) : Wq g (d + 9) ML_law (c + 1) (n + 6) 23 [some (pO 41 10 0), some (pO 10 8 0), some (pO 20 9 0), some (pO 40 10 0), some (pI x4), none, none, none, none] [] m Q := by
  refine Wq.iload (x := x4) dL_law_23 rfl ?_
  refine Wq.aload_n (t := 41) (r := 10) (j := 0) dL_law_25 rfl ?_
  refine Wq.lenS dL_law_26 ?_
  refine Wq.iconst (v := 4) dL_law_27 (by decide) ?_
  refine Wq.isub dL_law_28 ?_
  refine Wq.icmpgt (tgt := 1443) dL_law_29 (by decide) (fun q1 => ?_) (fun q1 => ?_)
  · replace h := h.1 q1
    refine Wq.iconst (v := 1) dL_law_1443 (by decide) ?_
    exact Wq.iret dL_law_1444 (⟨_, rfl, by decide⟩) h
  · replace h := h.2 q1
    refine Wq.aload_n (t := 41) (r := 10) (j := 0) dL_law_32 rfl ?_
    refine Wq.iload (x := x4) dL_law_33 rfl ?_
    refine Wq.ialdS dL_law_35 h.1 ?_
    replace h := h.2
    refine Wq.bipush (v := 31) dL_law_36 (by decide) ?_
    refine Wq.iand dL_law_38 ?_
    by_cases q2 : ((gx g (ix x4)) &&& 31) = 0
    · replace h := h.1 q2
      refine Wq.tableIn (tgt := 148) dL_law_39 (by rw [q2]; decide) (by rw [q2]; decide) (by rw [q2]; rfl) (by decide) ?_
      refine Wq.aload_n (t := 10) (r := 8) (j := 0) dL_law_148 rfl ?_
      refine Wq.aload_n (t := 40) (r := 10) (j := 0) dL_law_149 rfl ?_
      refine Wq.callH (As := [pO 10 8 0, pO 40 10 0]) dL_law_150 fL_addExaminer ml_L_84 rfl (Nat.le_of_ble_eq_true rfl) (Nat.le_of_ble_eq_true rfl) h (fun r3 h4 h => ?_)
      refine Wq.istore (ls2 := [some (pO 41 10 0), some (pO 10 8 0), some (pO 20 9 0), some (pO 40 10 0), some (pI x4), some (pI r3), none, none, none]) dL_law_153 (by decide) rfl ?_
      refine Wq.aload_n (t := 20) (r := 9) (j := 0) dL_law_155 rfl ?_
      refine Wq.callVI (As := []) dL_law_156 fX5_addExaminer ml_L_89 rfl (by decide) rfl (Nat.le_of_ble_eq_true rfl) (Nat.le_of_ble_eq_true rfl) h (fun r5 h6 h => ?_)
      refine Wq.istore (ls2 := [some (pO 41 10 0), some (pO 10 8 0), some (pO 20 9 0), some (pO 40 10 0), some (pI x4), some (pI r3), some (pI r5), none, none]) dL_law_159 (by decide) rfl ?_
      refine Wq.aload_n (t := 20) (r := 9) (j := 0) dL_law_161 rfl ?_
      refine Wq.callVI (As := []) dL_law_162 fX5_thrown ml_L_90 rfl (by decide) rfl (Nat.le_of_ble_eq_true rfl) (Nat.le_of_ble_eq_true rfl) (suX5_thrown trivial) (fun x10 m9 e9 => ?_)
      obtain ⟨rfl, rfl⟩ := e9
      refine Wq.iload (x := r3) dL_law_165 rfl ?_
      refine Wq.icmpeq (tgt := 172) dL_law_167 (by decide) (fun q7 => ?_) (fun q7 => ?_)
      · replace h := h.1 q7
        refine Wq.iload (x := r3) dL_law_172 rfl ?_
        refine Wq.ifne (tgt := 189) dL_law_174 (by decide) (fun q8 => ?_) (fun q8 => ?_)
        · replace h := h.1 q8
          refine Wq.goto (tgt := 1437) dL_law_189 (by decide) ?_
          refine Wq.iinc (x := x4) (ls2 := [some (pO 41 10 0), some (pO 10 8 0), some (pO 20 9 0), some (pO 40 10 0), some (pI (x4 + 4)), some (pI r3), some (pI r5), none, none]) dL_law_1437 rfl (by decide) rfl ?_
          refine Wq.goto (tgt := 23) dL_law_1440 (by decide) ?_
          refine Wq.few (ls' := [some (pO 41 10 0), some (pO 10 8 0), some (pO 20 9 0), some (pO 40 10 0), some (pI (x4 + 4)), none, none, none, none]) ⟨rfl, ⟨rfl, ⟨rfl, ⟨rfl, ⟨rfl, trivial⟩⟩⟩⟩⟩ ?_
          exact h
        · replace h := h.2 q8
          refine Wq.aload_n (t := 40) (r := 10) (j := 0) dL_law_177 rfl ?_
          refine Wq.iconst (v := 0) dL_law_178 (by decide) ?_
          refine Wq.lald dL_law_179 ?_
          refine Wq.iload (x := r5) dL_law_180 rfl ?_
          refine Wq.i2l dL_law_182 ?_
          refine Wq.lcmp dL_law_183 ?_
          refine Wq.ifeq (tgt := 189) dL_law_184 (by decide) (fun q9 => ?_) (fun q9 => ?_)
          · replace h := h.1 q9
            refine Wq.goto (tgt := 1437) dL_law_189 (by decide) ?_
            refine Wq.iinc (x := x4) (ls2 := [some (pO 41 10 0), some (pO 10 8 0), some (pO 20 9 0), some (pO 40 10 0), some (pI (x4 + 4)), some (pI r3), some (pI r5), none, none]) dL_law_1437 rfl (by decide) rfl ?_
            refine Wq.goto (tgt := 23) dL_law_1440 (by decide) ?_
            refine Wq.few (ls' := [some (pO 41 10 0), some (pO 10 8 0), some (pO 20 9 0), some (pO 40 10 0), some (pI (x4 + 4)), none, none, none, none]) ⟨rfl, ⟨rfl, ⟨rfl, ⟨rfl, ⟨rfl, trivial⟩⟩⟩⟩⟩ ?_
            exact h
          · replace h := h.2 q9
            refine Wq.iconst (v := 0) dL_law_187 (by decide) ?_
            exact Wq.iret dL_law_188 (⟨_, rfl, by decide⟩) h
      · replace h := h.2 q7
        refine Wq.iconst (v := 0) dL_law_170 (by decide) ?_
        exact Wq.iret dL_law_171 (⟨_, rfl, by decide⟩) h
    · replace h := h.2 q2
      by_cases q11 : ((gx g (ix x4)) &&& 31) = 1
      · replace h := h.1 q11
        refine Wq.tableIn (tgt := 192) dL_law_39 (by rw [q11]; decide) (by rw [q11]; decide) (by rw [q11]; rfl) (by decide) ?_
        refine Wq.aload_n (t := 10) (r := 8) (j := 0) dL_law_192 rfl ?_
        refine Wq.aload_n (t := 40) (r := 10) (j := 0) dL_law_193 rfl ?_
        refine Wq.callH (As := [pO 10 8 0, pO 40 10 0]) dL_law_194 fL_addPupil ml_L_93 rfl (Nat.le_of_ble_eq_true rfl) (Nat.le_of_ble_eq_true rfl) h (fun r12 h13 h => ?_)
        refine Wq.istore (ls2 := [some (pO 41 10 0), some (pO 10 8 0), some (pO 20 9 0), some (pO 40 10 0), some (pI x4), some (pI r12), none, none, none]) dL_law_197 (by decide) rfl ?_
        refine Wq.aload_n (t := 20) (r := 9) (j := 0) dL_law_199 rfl ?_
        refine Wq.callVI (As := []) dL_law_200 fX5_addPupil ml_L_95 rfl (by decide) rfl (Nat.le_of_ble_eq_true rfl) (Nat.le_of_ble_eq_true rfl) h (fun r14 h15 h => ?_)
        refine Wq.istore (ls2 := [some (pO 41 10 0), some (pO 10 8 0), some (pO 20 9 0), some (pO 40 10 0), some (pI x4), some (pI r12), some (pI r14), none, none]) dL_law_203 (by decide) rfl ?_
        refine Wq.aload_n (t := 20) (r := 9) (j := 0) dL_law_205 rfl ?_
        refine Wq.callVI (As := []) dL_law_206 fX5_thrown ml_L_90 rfl (by decide) rfl (Nat.le_of_ble_eq_true rfl) (Nat.le_of_ble_eq_true rfl) (suX5_thrown trivial) (fun x19 m9 e9 => ?_)
        obtain ⟨rfl, rfl⟩ := e9
        refine Wq.iload (x := r12) dL_law_209 rfl ?_
        refine Wq.icmpeq (tgt := 216) dL_law_211 (by decide) (fun q16 => ?_) (fun q16 => ?_)
        · replace h := h.1 q16
          refine Wq.iload (x := r12) dL_law_216 rfl ?_
          refine Wq.ifne (tgt := 233) dL_law_218 (by decide) (fun q17 => ?_) (fun q17 => ?_)
          · replace h := h.1 q17
            refine Wq.goto (tgt := 1437) dL_law_233 (by decide) ?_
            refine Wq.iinc (x := x4) (ls2 := [some (pO 41 10 0), some (pO 10 8 0), some (pO 20 9 0), some (pO 40 10 0), some (pI (x4 + 4)), some (pI r12), some (pI r14), none, none]) dL_law_1437 rfl (by decide) rfl ?_
            refine Wq.goto (tgt := 23) dL_law_1440 (by decide) ?_
            refine Wq.few (ls' := [some (pO 41 10 0), some (pO 10 8 0), some (pO 20 9 0), some (pO 40 10 0), some (pI (x4 + 4)), none, none, none, none]) ⟨rfl, ⟨rfl, ⟨rfl, ⟨rfl, ⟨rfl, trivial⟩⟩⟩⟩⟩ ?_
            exact h
          · replace h := h.2 q17
            refine Wq.aload_n (t := 40) (r := 10) (j := 0) dL_law_221 rfl ?_
            refine Wq.iconst (v := 0) dL_law_222 (by decide) ?_
            refine Wq.lald dL_law_223 ?_
            refine Wq.iload (x := r14) dL_law_224 rfl ?_
            refine Wq.i2l dL_law_226 ?_
            refine Wq.lcmp dL_law_227 ?_
            refine Wq.ifeq (tgt := 233) dL_law_228 (by decide) (fun q18 => ?_) (fun q18 => ?_)
            · replace h := h.1 q18
              refine Wq.goto (tgt := 1437) dL_law_233 (by decide) ?_
              refine Wq.iinc (x := x4) (ls2 := [some (pO 41 10 0), some (pO 10 8 0), some (pO 20 9 0), some (pO 40 10 0), some (pI (x4 + 4)), some (pI r12), some (pI r14), none, none]) dL_law_1437 rfl (by decide) rfl ?_
              refine Wq.goto (tgt := 23) dL_law_1440 (by decide) ?_
              refine Wq.few (ls' := [some (pO 41 10 0), some (pO 10 8 0), some (pO 20 9 0), some (pO 40 10 0), some (pI (x4 + 4)), none, none, none, none]) ⟨rfl, ⟨rfl, ⟨rfl, ⟨rfl, ⟨rfl, trivial⟩⟩⟩⟩⟩ ?_
              exact h
            · replace h := h.2 q18
              refine Wq.iconst (v := 0) dL_law_231 (by decide) ?_
              exact Wq.iret dL_law_232 (⟨_, rfl, by decide⟩) h
        · replace h := h.2 q16
          refine Wq.iconst (v := 0) dL_law_214 (by decide) ?_
          exact Wq.iret dL_law_215 (⟨_, rfl, by decide⟩) h
      · replace h := h.2 q11
        by_cases q20 : ((gx g (ix x4)) &&& 31) = 2
        · replace h := h.1 q20
          refine Wq.tableIn (tgt := 236) dL_law_39 (by rw [q20]; decide) (by rw [q20]; decide) (by rw [q20]; rfl) (by decide) ?_
          refine Wq.aload_n (t := 10) (r := 8) (j := 0) dL_law_236 rfl ?_
          refine Wq.aload_n (t := 41) (r := 10) (j := 0) dL_law_237 rfl ?_
          refine Wq.iload (x := x4) dL_law_238 rfl ?_
          refine Wq.iconst (v := 1) dL_law_240 (by decide) ?_
          refine Wq.iadd dL_law_241 ?_
          refine Wq.ialdS dL_law_242 h.1 ?_
          replace h := h.2
          refine Wq.aload_n (t := 40) (r := 10) (j := 0) dL_law_243 rfl ?_
          refine Wq.callH (As := [pO 10 8 0, pI (gx g (ix (x4 + 1))), pO 40 10 0]) dL_law_244 fL_ask ml_L_96 rfl (Nat.le_of_ble_eq_true rfl) (Nat.le_of_ble_eq_true rfl) h (fun r21 h22 h => ?_)
          refine Wq.istore (ls2 := [some (pO 41 10 0), some (pO 10 8 0), some (pO 20 9 0), some (pO 40 10 0), some (pI x4), some (pI r21), none, none, none]) dL_law_247 (by decide) rfl ?_
          refine Wq.aload_n (t := 20) (r := 9) (j := 0) dL_law_249 rfl ?_
          refine Wq.aload_n (t := 41) (r := 10) (j := 0) dL_law_250 rfl ?_
          refine Wq.iload (x := x4) dL_law_251 rfl ?_
          refine Wq.iconst (v := 1) dL_law_253 (by decide) ?_
          refine Wq.iadd dL_law_254 ?_
          refine Wq.ialdS dL_law_255 h.1 ?_
          replace h := h.2
          refine Wq.callVI (As := [pI (gx g (ix (x4 + 1)))]) dL_law_256 fX5_ask ml_L_99 rfl (by decide) rfl (Nat.le_of_ble_eq_true rfl) (Nat.le_of_ble_eq_true rfl) h (fun r23 h24 h => ?_)
          refine Wq.istore (ls2 := [some (pO 41 10 0), some (pO 10 8 0), some (pO 20 9 0), some (pO 40 10 0), some (pI x4), some (pI r21), some (pI r23), none, none]) dL_law_259 (by decide) rfl ?_
          refine Wq.aload_n (t := 20) (r := 9) (j := 0) dL_law_261 rfl ?_
          refine Wq.callVI (As := []) dL_law_262 fX5_thrown ml_L_90 rfl (by decide) rfl (Nat.le_of_ble_eq_true rfl) (Nat.le_of_ble_eq_true rfl) (suX5_thrown trivial) (fun x28 m9 e9 => ?_)
          obtain ⟨rfl, rfl⟩ := e9
          refine Wq.iload (x := r21) dL_law_265 rfl ?_
          refine Wq.icmpeq (tgt := 272) dL_law_267 (by decide) (fun q25 => ?_) (fun q25 => ?_)
          · replace h := h.1 q25
            refine Wq.iload (x := r21) dL_law_272 rfl ?_
            refine Wq.ifne (tgt := 289) dL_law_274 (by decide) (fun q26 => ?_) (fun q26 => ?_)
            · replace h := h.1 q26
              refine Wq.goto (tgt := 1437) dL_law_289 (by decide) ?_
              refine Wq.iinc (x := x4) (ls2 := [some (pO 41 10 0), some (pO 10 8 0), some (pO 20 9 0), some (pO 40 10 0), some (pI (x4 + 4)), some (pI r21), some (pI r23), none, none]) dL_law_1437 rfl (by decide) rfl ?_
              refine Wq.goto (tgt := 23) dL_law_1440 (by decide) ?_
              refine Wq.few (ls' := [some (pO 41 10 0), some (pO 10 8 0), some (pO 20 9 0), some (pO 40 10 0), some (pI (x4 + 4)), none, none, none, none]) ⟨rfl, ⟨rfl, ⟨rfl, ⟨rfl, ⟨rfl, trivial⟩⟩⟩⟩⟩ ?_
              exact h
            · replace h := h.2 q26
              refine Wq.aload_n (t := 40) (r := 10) (j := 0) dL_law_277 rfl ?_
              refine Wq.iconst (v := 0) dL_law_278 (by decide) ?_
              refine Wq.lald dL_law_279 ?_
              refine Wq.iload (x := r23) dL_law_280 rfl ?_
              refine Wq.i2l dL_law_282 ?_
              refine Wq.lcmp dL_law_283 ?_
              refine Wq.ifeq (tgt := 289) dL_law_284 (by decide) (fun q27 => ?_) (fun q27 => ?_)
              · replace h := h.1 q27
                refine Wq.goto (tgt := 1437) dL_law_289 (by decide) ?_
                refine Wq.iinc (x := x4) (ls2 := [some (pO 41 10 0), some (pO 10 8 0), some (pO 20 9 0), some (pO 40 10 0), some (pI (x4 + 4)), some (pI r21), some (pI r23), none, none]) dL_law_1437 rfl (by decide) rfl ?_
                refine Wq.goto (tgt := 23) dL_law_1440 (by decide) ?_
                refine Wq.few (ls' := [some (pO 41 10 0), some (pO 10 8 0), some (pO 20 9 0), some (pO 40 10 0), some (pI (x4 + 4)), none, none, none, none]) ⟨rfl, ⟨rfl, ⟨rfl, ⟨rfl, ⟨rfl, trivial⟩⟩⟩⟩⟩ ?_
                exact h
              · replace h := h.2 q27
                refine Wq.iconst (v := 0) dL_law_287 (by decide) ?_
                exact Wq.iret dL_law_288 (⟨_, rfl, by decide⟩) h
          · replace h := h.2 q25
            refine Wq.iconst (v := 0) dL_law_270 (by decide) ?_
            exact Wq.iret dL_law_271 (⟨_, rfl, by decide⟩) h
        · replace h := h.2 q20
          by_cases q29 : ((gx g (ix x4)) &&& 31) = 3
          · replace h := h.1 q29
            refine Wq.tableIn (tgt := 292) dL_law_39 (by rw [q29]; decide) (by rw [q29]; decide) (by rw [q29]; rfl) (by decide) ?_
            refine Wq.aload_n (t := 10) (r := 8) (j := 0) dL_law_292 rfl ?_
            refine Wq.aload_n (t := 41) (r := 10) (j := 0) dL_law_293 rfl ?_
            refine Wq.iload (x := x4) dL_law_294 rfl ?_
            refine Wq.iconst (v := 1) dL_law_296 (by decide) ?_
            refine Wq.iadd dL_law_297 ?_
            refine Wq.ialdS dL_law_298 h.1 ?_
            replace h := h.2
            refine Wq.aload_n (t := 40) (r := 10) (j := 0) dL_law_299 rfl ?_
            refine Wq.callH (As := [pO 10 8 0, pI (gx g (ix (x4 + 1))), pO 40 10 0]) dL_law_300 fL_quit ml_L_100 rfl (Nat.le_of_ble_eq_true rfl) (Nat.le_of_ble_eq_true rfl) h (fun r30 h31 h => ?_)
            refine Wq.istore (ls2 := [some (pO 41 10 0), some (pO 10 8 0), some (pO 20 9 0), some (pO 40 10 0), some (pI x4), some (pI r30), none, none, none]) dL_law_303 (by decide) rfl ?_
            refine Wq.aload_n (t := 20) (r := 9) (j := 0) dL_law_305 rfl ?_
            refine Wq.aload_n (t := 41) (r := 10) (j := 0) dL_law_306 rfl ?_
            refine Wq.iload (x := x4) dL_law_307 rfl ?_
            refine Wq.iconst (v := 1) dL_law_309 (by decide) ?_
            refine Wq.iadd dL_law_310 ?_
            refine Wq.ialdS dL_law_311 h.1 ?_
            replace h := h.2
            refine Wq.callVI (As := [pI (gx g (ix (x4 + 1)))]) dL_law_312 fX5_quit ml_L_102 rfl (by decide) rfl (Nat.le_of_ble_eq_true rfl) (Nat.le_of_ble_eq_true rfl) h (fun r32 h33 h => ?_)
            refine Wq.istore (ls2 := [some (pO 41 10 0), some (pO 10 8 0), some (pO 20 9 0), some (pO 40 10 0), some (pI x4), some (pI r30), some (pI r32), none, none]) dL_law_315 (by decide) rfl ?_
            refine Wq.aload_n (t := 20) (r := 9) (j := 0) dL_law_317 rfl ?_
            refine Wq.callVI (As := []) dL_law_318 fX5_thrown ml_L_90 rfl (by decide) rfl (Nat.le_of_ble_eq_true rfl) (Nat.le_of_ble_eq_true rfl) (suX5_thrown trivial) (fun x37 m9 e9 => ?_)
            obtain ⟨rfl, rfl⟩ := e9
            refine Wq.iload (x := r30) dL_law_321 rfl ?_
            refine Wq.icmpeq (tgt := 328) dL_law_323 (by decide) (fun q34 => ?_) (fun q34 => ?_)
            · replace h := h.1 q34
              refine Wq.iload (x := r30) dL_law_328 rfl ?_
              refine Wq.ifne (tgt := 345) dL_law_330 (by decide) (fun q35 => ?_) (fun q35 => ?_)
              · replace h := h.1 q35
                refine Wq.goto (tgt := 1437) dL_law_345 (by decide) ?_
                refine Wq.iinc (x := x4) (ls2 := [some (pO 41 10 0), some (pO 10 8 0), some (pO 20 9 0), some (pO 40 10 0), some (pI (x4 + 4)), some (pI r30), some (pI r32), none, none]) dL_law_1437 rfl (by decide) rfl ?_
                refine Wq.goto (tgt := 23) dL_law_1440 (by decide) ?_
                refine Wq.few (ls' := [some (pO 41 10 0), some (pO 10 8 0), some (pO 20 9 0), some (pO 40 10 0), some (pI (x4 + 4)), none, none, none, none]) ⟨rfl, ⟨rfl, ⟨rfl, ⟨rfl, ⟨rfl, trivial⟩⟩⟩⟩⟩ ?_
                exact h
              · replace h := h.2 q35
                refine Wq.aload_n (t := 40) (r := 10) (j := 0) dL_law_333 rfl ?_
                refine Wq.iconst (v := 0) dL_law_334 (by decide) ?_
                refine Wq.lald dL_law_335 ?_
                refine Wq.iload (x := r32) dL_law_336 rfl ?_
                refine Wq.i2l dL_law_338 ?_
                refine Wq.lcmp dL_law_339 ?_
                refine Wq.ifeq (tgt := 345) dL_law_340 (by decide) (fun q36 => ?_) (fun q36 => ?_)
                · replace h := h.1 q36
                  refine Wq.goto (tgt := 1437) dL_law_345 (by decide) ?_
                  refine Wq.iinc (x := x4) (ls2 := [some (pO 41 10 0), some (pO 10 8 0), some (pO 20 9 0), some (pO 40 10 0), some (pI (x4 + 4)), some (pI r30), some (pI r32), none, none]) dL_law_1437 rfl (by decide) rfl ?_
                  refine Wq.goto (tgt := 23) dL_law_1440 (by decide) ?_
                  refine Wq.few (ls' := [some (pO 41 10 0), some (pO 10 8 0), some (pO 20 9 0), some (pO 40 10 0), some (pI (x4 + 4)), none, none, none, none]) ⟨rfl, ⟨rfl, ⟨rfl, ⟨rfl, ⟨rfl, trivial⟩⟩⟩⟩⟩ ?_
                  exact h
                · replace h := h.2 q36
                  refine Wq.iconst (v := 0) dL_law_343 (by decide) ?_
                  exact Wq.iret dL_law_344 (⟨_, rfl, by decide⟩) h
            · replace h := h.2 q34
              refine Wq.iconst (v := 0) dL_law_326 (by decide) ?_
              exact Wq.iret dL_law_327 (⟨_, rfl, by decide⟩) h
          · replace h := h.2 q29
            by_cases q38 : ((gx g (ix x4)) &&& 31) = 4
            · replace h := h.1 q38
              refine Wq.tableIn (tgt := 348) dL_law_39 (by rw [q38]; decide) (by rw [q38]; decide) (by rw [q38]; rfl) (by decide) ?_
              refine Wq.aload_n (t := 10) (r := 8) (j := 0) dL_law_348 rfl ?_
              refine Wq.aload_n (t := 41) (r := 10) (j := 0) dL_law_349 rfl ?_
              refine Wq.iload (x := x4) dL_law_350 rfl ?_
              refine Wq.iconst (v := 1) dL_law_352 (by decide) ?_
              refine Wq.iadd dL_law_353 ?_
              refine Wq.ialdS dL_law_354 h.1 ?_
              replace h := h.2
              refine Wq.aload_n (t := 41) (r := 10) (j := 0) dL_law_355 rfl ?_
              refine Wq.iload (x := x4) dL_law_356 rfl ?_
              refine Wq.iconst (v := 2) dL_law_358 (by decide) ?_
              refine Wq.iadd dL_law_359 ?_
              refine Wq.ialdS dL_law_360 h.1 ?_
              replace h := h.2
              refine Wq.aload_n (t := 40) (r := 10) (j := 0) dL_law_361 rfl ?_
              refine Wq.callH (As := [pO 10 8 0, pI (gx g (ix (x4 + 1))), pI (gx g (ix (x4 + 2))), pO 40 10 0]) dL_law_362 fL_cancel ml_L_103 rfl (Nat.le_of_ble_eq_true rfl) (Nat.le_of_ble_eq_true rfl) h (fun r39 h40 h => ?_)
              refine Wq.istore (ls2 := [some (pO 41 10 0), some (pO 10 8 0), some (pO 20 9 0), some (pO 40 10 0), some (pI x4), some (pI r39), none, none, none]) dL_law_365 (by decide) rfl ?_
              refine Wq.aload_n (t := 20) (r := 9) (j := 0) dL_law_367 rfl ?_
              refine Wq.aload_n (t := 41) (r := 10) (j := 0) dL_law_368 rfl ?_
              refine Wq.iload (x := x4) dL_law_369 rfl ?_
              refine Wq.iconst (v := 1) dL_law_371 (by decide) ?_
              refine Wq.iadd dL_law_372 ?_
              refine Wq.ialdS dL_law_373 h.1 ?_
              replace h := h.2
              refine Wq.aload_n (t := 41) (r := 10) (j := 0) dL_law_374 rfl ?_
              refine Wq.iload (x := x4) dL_law_375 rfl ?_
              refine Wq.iconst (v := 2) dL_law_377 (by decide) ?_
              refine Wq.iadd dL_law_378 ?_
              refine Wq.ialdS dL_law_379 h.1 ?_
              replace h := h.2
              refine Wq.callVI (As := [pI (gx g (ix (x4 + 1))), pI (gx g (ix (x4 + 2)))]) dL_law_380 fX5_cancel ml_L_106 rfl (by decide) rfl (Nat.le_of_ble_eq_true rfl) (Nat.le_of_ble_eq_true rfl) h (fun r41 h42 h => ?_)
              refine Wq.istore (ls2 := [some (pO 41 10 0), some (pO 10 8 0), some (pO 20 9 0), some (pO 40 10 0), some (pI x4), some (pI r39), some (pI r41), none, none]) dL_law_383 (by decide) rfl ?_
              refine Wq.aload_n (t := 20) (r := 9) (j := 0) dL_law_385 rfl ?_
              refine Wq.callVI (As := []) dL_law_386 fX5_thrown ml_L_90 rfl (by decide) rfl (Nat.le_of_ble_eq_true rfl) (Nat.le_of_ble_eq_true rfl) (suX5_thrown trivial) (fun x46 m9 e9 => ?_)
              obtain ⟨rfl, rfl⟩ := e9
              refine Wq.iload (x := r39) dL_law_389 rfl ?_
              refine Wq.icmpeq (tgt := 396) dL_law_391 (by decide) (fun q43 => ?_) (fun q43 => ?_)
              · replace h := h.1 q43
                refine Wq.iload (x := r39) dL_law_396 rfl ?_
                refine Wq.ifne (tgt := 413) dL_law_398 (by decide) (fun q44 => ?_) (fun q44 => ?_)
                · replace h := h.1 q44
                  refine Wq.goto (tgt := 1437) dL_law_413 (by decide) ?_
                  refine Wq.iinc (x := x4) (ls2 := [some (pO 41 10 0), some (pO 10 8 0), some (pO 20 9 0), some (pO 40 10 0), some (pI (x4 + 4)), some (pI r39), some (pI r41), none, none]) dL_law_1437 rfl (by decide) rfl ?_
                  refine Wq.goto (tgt := 23) dL_law_1440 (by decide) ?_
                  refine Wq.few (ls' := [some (pO 41 10 0), some (pO 10 8 0), some (pO 20 9 0), some (pO 40 10 0), some (pI (x4 + 4)), none, none, none, none]) ⟨rfl, ⟨rfl, ⟨rfl, ⟨rfl, ⟨rfl, trivial⟩⟩⟩⟩⟩ ?_
                  exact h
                · replace h := h.2 q44
                  refine Wq.aload_n (t := 40) (r := 10) (j := 0) dL_law_401 rfl ?_
                  refine Wq.iconst (v := 0) dL_law_402 (by decide) ?_
                  refine Wq.lald dL_law_403 ?_
                  refine Wq.iload (x := r41) dL_law_404 rfl ?_
                  refine Wq.i2l dL_law_406 ?_
                  refine Wq.lcmp dL_law_407 ?_
                  refine Wq.ifeq (tgt := 413) dL_law_408 (by decide) (fun q45 => ?_) (fun q45 => ?_)
                  · replace h := h.1 q45
                    refine Wq.goto (tgt := 1437) dL_law_413 (by decide) ?_
                    refine Wq.iinc (x := x4) (ls2 := [some (pO 41 10 0), some (pO 10 8 0), some (pO 20 9 0), some (pO 40 10 0), some (pI (x4 + 4)), some (pI r39), some (pI r41), none, none]) dL_law_1437 rfl (by decide) rfl ?_
                    refine Wq.goto (tgt := 23) dL_law_1440 (by decide) ?_
                    refine Wq.few (ls' := [some (pO 41 10 0), some (pO 10 8 0), some (pO 20 9 0), some (pO 40 10 0), some (pI (x4 + 4)), none, none, none, none]) ⟨rfl, ⟨rfl, ⟨rfl, ⟨rfl, ⟨rfl, trivial⟩⟩⟩⟩⟩ ?_
                    exact h
                  · replace h := h.2 q45
                    refine Wq.iconst (v := 0) dL_law_411 (by decide) ?_
                    exact Wq.iret dL_law_412 (⟨_, rfl, by decide⟩) h
              · replace h := h.2 q43
                refine Wq.iconst (v := 0) dL_law_394 (by decide) ?_
                exact Wq.iret dL_law_395 (⟨_, rfl, by decide⟩) h
            · replace h := h.2 q38
              by_cases q47 : ((gx g (ix x4)) &&& 31) = 5
              · replace h := h.1 q47
                refine Wq.tableIn (tgt := 416) dL_law_39 (by rw [q47]; decide) (by rw [q47]; decide) (by rw [q47]; rfl) (by decide) ?_
                refine Wq.aload_n (t := 10) (r := 8) (j := 0) dL_law_416 rfl ?_
                refine Wq.aload_n (t := 41) (r := 10) (j := 0) dL_law_417 rfl ?_
                refine Wq.iload (x := x4) dL_law_418 rfl ?_
                refine Wq.iconst (v := 1) dL_law_420 (by decide) ?_
                refine Wq.iadd dL_law_421 ?_
                refine Wq.ialdS dL_law_422 h.1 ?_
                replace h := h.2
                refine Wq.aload_n (t := 41) (r := 10) (j := 0) dL_law_423 rfl ?_
                refine Wq.iload (x := x4) dL_law_424 rfl ?_
                refine Wq.iconst (v := 2) dL_law_426 (by decide) ?_
                refine Wq.iadd dL_law_427 ?_
                refine Wq.ialdS dL_law_428 h.1 ?_
                replace h := h.2
                refine Wq.ifeq (tgt := 436) dL_law_429 (by decide) (fun q48 => ?_) (fun q48 => ?_)
                · replace h := h.1 q48
                  refine Wq.iconst (v := 0) dL_law_436 (by decide) ?_
                  refine Wq.aload_n (t := 40) (r := 10) (j := 0) dL_law_437 rfl ?_
                  refine Wq.callH (As := [pO 10 8 0, pI (gx g (ix (x4 + 1))), pI 0, pO 40 10 0]) dL_law_438 fL_test ml_L_107 rfl (Nat.le_of_ble_eq_true rfl) (Nat.le_of_ble_eq_true rfl) h (fun r49 h50 h => ?_)
                  refine Wq.istore (ls2 := [some (pO 41 10 0), some (pO 10 8 0), some (pO 20 9 0), some (pO 40 10 0), some (pI x4), some (pI r49), none, none, none]) dL_law_441 (by decide) rfl ?_
                  refine Wq.aload_n (t := 20) (r := 9) (j := 0) dL_law_443 rfl ?_
                  refine Wq.aload_n (t := 41) (r := 10) (j := 0) dL_law_444 rfl ?_
                  refine Wq.iload (x := x4) dL_law_445 rfl ?_
                  refine Wq.iconst (v := 1) dL_law_447 (by decide) ?_
                  refine Wq.iadd dL_law_448 ?_
                  refine Wq.ialdS dL_law_449 h.1 ?_
                  replace h := h.2
                  refine Wq.aload_n (t := 41) (r := 10) (j := 0) dL_law_450 rfl ?_
                  refine Wq.iload (x := x4) dL_law_451 rfl ?_
                  refine Wq.iconst (v := 2) dL_law_453 (by decide) ?_
                  refine Wq.iadd dL_law_454 ?_
                  refine Wq.ialdS dL_law_455 h.1 ?_
                  replace h := h.2
                  refine Wq.ifeq (tgt := 463) dL_law_456 (by decide) (fun q51 => ?_) (fun q51 => ?_)
                  · replace h := h.1 q51
                    refine Wq.iconst (v := 0) dL_law_463 (by decide) ?_
                    refine Wq.callVI (As := [pI (gx g (ix (x4 + 1))), pI 0]) dL_law_464 fX5_test ml_L_110 rfl (by decide) rfl (Nat.le_of_ble_eq_true rfl) (Nat.le_of_ble_eq_true rfl) h (fun r52 h53 h => ?_)
                    refine Wq.istore (ls2 := [some (pO 41 10 0), some (pO 10 8 0), some (pO 20 9 0), some (pO 40 10 0), some (pI x4), some (pI r49), some (pI r52), none, none]) dL_law_467 (by decide) rfl ?_
                    refine Wq.aload_n (t := 20) (r := 9) (j := 0) dL_law_469 rfl ?_
                    refine Wq.callVI (As := []) dL_law_470 fX5_thrown ml_L_90 rfl (by decide) rfl (Nat.le_of_ble_eq_true rfl) (Nat.le_of_ble_eq_true rfl) (suX5_thrown trivial) (fun x57 m9 e9 => ?_)
                    obtain ⟨rfl, rfl⟩ := e9
                    refine Wq.iload (x := r49) dL_law_473 rfl ?_
                    refine Wq.icmpeq (tgt := 480) dL_law_475 (by decide) (fun q54 => ?_) (fun q54 => ?_)
                    · replace h := h.1 q54
                      refine Wq.iload (x := r49) dL_law_480 rfl ?_
                      refine Wq.ifne (tgt := 497) dL_law_482 (by decide) (fun q55 => ?_) (fun q55 => ?_)
                      · replace h := h.1 q55
                        refine Wq.goto (tgt := 1437) dL_law_497 (by decide) ?_
                        refine Wq.iinc (x := x4) (ls2 := [some (pO 41 10 0), some (pO 10 8 0), some (pO 20 9 0), some (pO 40 10 0), some (pI (x4 + 4)), some (pI r49), some (pI r52), none, none]) dL_law_1437 rfl (by decide) rfl ?_
                        refine Wq.goto (tgt := 23) dL_law_1440 (by decide) ?_
                        refine Wq.few (ls' := [some (pO 41 10 0), some (pO 10 8 0), some (pO 20 9 0), some (pO 40 10 0), some (pI (x4 + 4)), none, none, none, none]) ⟨rfl, ⟨rfl, ⟨rfl, ⟨rfl, ⟨rfl, trivial⟩⟩⟩⟩⟩ ?_
                        exact h
                      · replace h := h.2 q55
                        refine Wq.aload_n (t := 40) (r := 10) (j := 0) dL_law_485 rfl ?_
                        refine Wq.iconst (v := 0) dL_law_486 (by decide) ?_
                        refine Wq.lald dL_law_487 ?_
                        refine Wq.iload (x := r52) dL_law_488 rfl ?_
                        refine Wq.i2l dL_law_490 ?_
                        refine Wq.lcmp dL_law_491 ?_
                        refine Wq.ifeq (tgt := 497) dL_law_492 (by decide) (fun q56 => ?_) (fun q56 => ?_)
                        · replace h := h.1 q56
                          refine Wq.goto (tgt := 1437) dL_law_497 (by decide) ?_
                          refine Wq.iinc (x := x4) (ls2 := [some (pO 41 10 0), some (pO 10 8 0), some (pO 20 9 0), some (pO 40 10 0), some (pI (x4 + 4)), some (pI r49), some (pI r52), none, none]) dL_law_1437 rfl (by decide) rfl ?_
                          refine Wq.goto (tgt := 23) dL_law_1440 (by decide) ?_
                          refine Wq.few (ls' := [some (pO 41 10 0), some (pO 10 8 0), some (pO 20 9 0), some (pO 40 10 0), some (pI (x4 + 4)), none, none, none, none]) ⟨rfl, ⟨rfl, ⟨rfl, ⟨rfl, ⟨rfl, trivial⟩⟩⟩⟩⟩ ?_
                          exact h
                        · replace h := h.2 q56
                          refine Wq.iconst (v := 0) dL_law_495 (by decide) ?_
                          exact Wq.iret dL_law_496 (⟨_, rfl, by decide⟩) h
                    · replace h := h.2 q54
                      refine Wq.iconst (v := 0) dL_law_478 (by decide) ?_
                      exact Wq.iret dL_law_479 (⟨_, rfl, by decide⟩) h
                  · replace h := h.2 q51
                    refine Wq.iconst (v := 1) dL_law_459 (by decide) ?_
                    refine Wq.goto (tgt := 464) dL_law_460 (by decide) ?_
                    refine Wq.callVI (As := [pI (gx g (ix (x4 + 1))), pI 1]) dL_law_464 fX5_test ml_L_110 rfl (by decide) rfl (Nat.le_of_ble_eq_true rfl) (Nat.le_of_ble_eq_true rfl) h (fun r58 h59 h => ?_)
                    refine Wq.istore (ls2 := [some (pO 41 10 0), some (pO 10 8 0), some (pO 20 9 0), some (pO 40 10 0), some (pI x4), some (pI r49), some (pI r58), none, none]) dL_law_467 (by decide) rfl ?_
                    refine Wq.aload_n (t := 20) (r := 9) (j := 0) dL_law_469 rfl ?_
                    refine Wq.callVI (As := []) dL_law_470 fX5_thrown ml_L_90 rfl (by decide) rfl (Nat.le_of_ble_eq_true rfl) (Nat.le_of_ble_eq_true rfl) (suX5_thrown trivial) (fun x63 m9 e9 => ?_)
                    obtain ⟨rfl, rfl⟩ := e9
                    refine Wq.iload (x := r49) dL_law_473 rfl ?_
                    refine Wq.icmpeq (tgt := 480) dL_law_475 (by decide) (fun q60 => ?_) (fun q60 => ?_)
                    · replace h := h.1 q60
                      refine Wq.iload (x := r49) dL_law_480 rfl ?_
                      refine Wq.ifne (tgt := 497) dL_law_482 (by decide) (fun q61 => ?_) (fun q61 => ?_)
                      · replace h := h.1 q61
                        refine Wq.goto (tgt := 1437) dL_law_497 (by decide) ?_
                        refine Wq.iinc (x := x4) (ls2 := [some (pO 41 10 0), some (pO 10 8 0), some (pO 20 9 0), some (pO 40 10 0), some (pI (x4 + 4)), some (pI r49), some (pI r58), none, none]) dL_law_1437 rfl (by decide) rfl ?_
                        refine Wq.goto (tgt := 23) dL_law_1440 (by decide) ?_
                        refine Wq.few (ls' := [some (pO 41 10 0), some (pO 10 8 0), some (pO 20 9 0), some (pO 40 10 0), some (pI (x4 + 4)), none, none, none, none]) ⟨rfl, ⟨rfl, ⟨rfl, ⟨rfl, ⟨rfl, trivial⟩⟩⟩⟩⟩ ?_
                        exact h
                      · replace h := h.2 q61
                        refine Wq.aload_n (t := 40) (r := 10) (j := 0) dL_law_485 rfl ?_
                        refine Wq.iconst (v := 0) dL_law_486 (by decide) ?_
                        refine Wq.lald dL_law_487 ?_
                        refine Wq.iload (x := r58) dL_law_488 rfl ?_
                        refine Wq.i2l dL_law_490 ?_
                        refine Wq.lcmp dL_law_491 ?_
                        refine Wq.ifeq (tgt := 497) dL_law_492 (by decide) (fun q62 => ?_) (fun q62 => ?_)
                        · replace h := h.1 q62
                          refine Wq.goto (tgt := 1437) dL_law_497 (by decide) ?_
                          refine Wq.iinc (x := x4) (ls2 := [some (pO 41 10 0), some (pO 10 8 0), some (pO 20 9 0), some (pO 40 10 0), some (pI (x4 + 4)), some (pI r49), some (pI r58), none, none]) dL_law_1437 rfl (by decide) rfl ?_
                          refine Wq.goto (tgt := 23) dL_law_1440 (by decide) ?_
                          refine Wq.few (ls' := [some (pO 41 10 0), some (pO 10 8 0), some (pO 20 9 0), some (pO 40 10 0), some (pI (x4 + 4)), none, none, none, none]) ⟨rfl, ⟨rfl, ⟨rfl, ⟨rfl, ⟨rfl, trivial⟩⟩⟩⟩⟩ ?_
                          exact h
                        · replace h := h.2 q62
                          refine Wq.iconst (v := 0) dL_law_495 (by decide) ?_
                          exact Wq.iret dL_law_496 (⟨_, rfl, by decide⟩) h
                    · replace h := h.2 q60
                      refine Wq.iconst (v := 0) dL_law_478 (by decide) ?_
                      exact Wq.iret dL_law_479 (⟨_, rfl, by decide⟩) h
                · replace h := h.2 q48
                  refine Wq.iconst (v := 1) dL_law_432 (by decide) ?_
                  refine Wq.goto (tgt := 437) dL_law_433 (by decide) ?_
                  refine Wq.aload_n (t := 40) (r := 10) (j := 0) dL_law_437 rfl ?_
                  refine Wq.callH (As := [pO 10 8 0, pI (gx g (ix (x4 + 1))), pI 1, pO 40 10 0]) dL_law_438 fL_test ml_L_107 rfl (Nat.le_of_ble_eq_true rfl) (Nat.le_of_ble_eq_true rfl) h (fun r64 h65 h => ?_)
                  refine Wq.istore (ls2 := [some (pO 41 10 0), some (pO 10 8 0), some (pO 20 9 0), some (pO 40 10 0), some (pI x4), some (pI r64), none, none, none]) dL_law_441 (by decide) rfl ?_
                  refine Wq.aload_n (t := 20) (r := 9) (j := 0) dL_law_443 rfl ?_
                  refine Wq.aload_n (t := 41) (r := 10) (j := 0) dL_law_444 rfl ?_
                  refine Wq.iload (x := x4) dL_law_445 rfl ?_
                  refine Wq.iconst (v := 1) dL_law_447 (by decide) ?_
                  refine Wq.iadd dL_law_448 ?_
                  refine Wq.ialdS dL_law_449 h.1 ?_
                  replace h := h.2
                  refine Wq.aload_n (t := 41) (r := 10) (j := 0) dL_law_450 rfl ?_
                  refine Wq.iload (x := x4) dL_law_451 rfl ?_
                  refine Wq.iconst (v := 2) dL_law_453 (by decide) ?_
                  refine Wq.iadd dL_law_454 ?_
                  refine Wq.ialdS dL_law_455 h.1 ?_
                  replace h := h.2
                  refine Wq.ifeq (tgt := 463) dL_law_456 (by decide) (fun q66 => ?_) (fun q66 => ?_)
                  · replace h := h.1 q66
                    refine Wq.iconst (v := 0) dL_law_463 (by decide) ?_
                    refine Wq.callVI (As := [pI (gx g (ix (x4 + 1))), pI 0]) dL_law_464 fX5_test ml_L_110 rfl (by decide) rfl (Nat.le_of_ble_eq_true rfl) (Nat.le_of_ble_eq_true rfl) h (fun r67 h68 h => ?_)
                    refine Wq.istore (ls2 := [some (pO 41 10 0), some (pO 10 8 0), some (pO 20 9 0), some (pO 40 10 0), some (pI x4), some (pI r64), some (pI r67), none, none]) dL_law_467 (by decide) rfl ?_
                    refine Wq.aload_n (t := 20) (r := 9) (j := 0) dL_law_469 rfl ?_
                    refine Wq.callVI (As := []) dL_law_470 fX5_thrown ml_L_90 rfl (by decide) rfl (Nat.le_of_ble_eq_true rfl) (Nat.le_of_ble_eq_true rfl) (suX5_thrown trivial) (fun x72 m9 e9 => ?_)
                    obtain ⟨rfl, rfl⟩ := e9
                    refine Wq.iload (x := r64) dL_law_473 rfl ?_
                    refine Wq.icmpeq (tgt := 480) dL_law_475 (by decide) (fun q69 => ?_) (fun q69 => ?_)
                    · replace h := h.1 q69
                      refine Wq.iload (x := r64) dL_law_480 rfl ?_
                      refine Wq.ifne (tgt := 497) dL_law_482 (by decide) (fun q70 => ?_) (fun q70 => ?_)
                      · replace h := h.1 q70
                        refine Wq.goto (tgt := 1437) dL_law_497 (by decide) ?_
                        refine Wq.iinc (x := x4) (ls2 := [some (pO 41 10 0), some (pO 10 8 0), some (pO 20 9 0), some (pO 40 10 0), some (pI (x4 + 4)), some (pI r64), some (pI r67), none, none]) dL_law_1437 rfl (by decide) rfl ?_
                        refine Wq.goto (tgt := 23) dL_law_1440 (by decide) ?_
                        refine Wq.few (ls' := [some (pO 41 10 0), some (pO 10 8 0), some (pO 20 9 0), some (pO 40 10 0), some (pI (x4 + 4)), none, none, none, none]) ⟨rfl, ⟨rfl, ⟨rfl, ⟨rfl, ⟨rfl, trivial⟩⟩⟩⟩⟩ ?_
                        exact h
                      · replace h := h.2 q70
                        refine Wq.aload_n (t := 40) (r := 10) (j := 0) dL_law_485 rfl ?_
                        refine Wq.iconst (v := 0) dL_law_486 (by decide) ?_
                        refine Wq.lald dL_law_487 ?_
                        refine Wq.iload (x := r67) dL_law_488 rfl ?_
                        refine Wq.i2l dL_law_490 ?_
                        refine Wq.lcmp dL_law_491 ?_
                        refine Wq.ifeq (tgt := 497) dL_law_492 (by decide) (fun q71 => ?_) (fun q71 => ?_)
                        · replace h := h.1 q71
                          refine Wq.goto (tgt := 1437) dL_law_497 (by decide) ?_
                          refine Wq.iinc (x := x4) (ls2 := [some (pO 41 10 0), some (pO 10 8 0), some (pO 20 9 0), some (pO 40 10 0), some (pI (x4 + 4)), some (pI r64), some (pI r67), none, none]) dL_law_1437 rfl (by decide) rfl ?_
                          refine Wq.goto (tgt := 23) dL_law_1440 (by decide) ?_
                          refine Wq.few (ls' := [some (pO 41 10 0), some (pO 10 8 0), some (pO 20 9 0), some (pO 40 10 0), some (pI (x4 + 4)), none, none, none, none]) ⟨rfl, ⟨rfl, ⟨rfl, ⟨rfl, ⟨rfl, trivial⟩⟩⟩⟩⟩ ?_
                          exact h
                        · replace h := h.2 q71
                          refine Wq.iconst (v := 0) dL_law_495 (by decide) ?_
                          exact Wq.iret dL_law_496 (⟨_, rfl, by decide⟩) h
                    · replace h := h.2 q69
                      refine Wq.iconst (v := 0) dL_law_478 (by decide) ?_
                      exact Wq.iret dL_law_479 (⟨_, rfl, by decide⟩) h
                  · replace h := h.2 q66
                    refine Wq.iconst (v := 1) dL_law_459 (by decide) ?_
                    refine Wq.goto (tgt := 464) dL_law_460 (by decide) ?_
                    refine Wq.callVI (As := [pI (gx g (ix (x4 + 1))), pI 1]) dL_law_464 fX5_test ml_L_110 rfl (by decide) rfl (Nat.le_of_ble_eq_true rfl) (Nat.le_of_ble_eq_true rfl) h (fun r73 h74 h => ?_)
                    refine Wq.istore (ls2 := [some (pO 41 10 0), some (pO 10 8 0), some (pO 20 9 0), some (pO 40 10 0), some (pI x4), some (pI r64), some (pI r73), none, none]) dL_law_467 (by decide) rfl ?_
                    refine Wq.aload_n (t := 20) (r := 9) (j := 0) dL_law_469 rfl ?_
                    refine Wq.callVI (As := []) dL_law_470 fX5_thrown ml_L_90 rfl (by decide) rfl (Nat.le_of_ble_eq_true rfl) (Nat.le_of_ble_eq_true rfl) (suX5_thrown trivial) (fun x78 m9 e9 => ?_)
                    obtain ⟨rfl, rfl⟩ := e9
                    refine Wq.iload (x := r64) dL_law_473 rfl ?_
                    refine Wq.icmpeq (tgt := 480) dL_law_475 (by decide) (fun q75 => ?_) (fun q75 => ?_)
                    · replace h := h.1 q75
                      refine Wq.iload (x := r64) dL_law_480 rfl ?_
                      refine Wq.ifne (tgt := 497) dL_law_482 (by decide) (fun q76 => ?_) (fun q76 => ?_)
                      · replace h := h.1 q76
                        refine Wq.goto (tgt := 1437) dL_law_497 (by decide) ?_
                        refine Wq.iinc (x := x4) (ls2 := [some (pO 41 10 0), some (pO 10 8 0), some (pO 20 9 0), some (pO 40 10 0), some (pI (x4 + 4)), some (pI r64), some (pI r73), none, none]) dL_law_1437 rfl (by decide) rfl ?_
                        refine Wq.goto (tgt := 23) dL_law_1440 (by decide) ?_
                        refine Wq.few (ls' := [some (pO 41 10 0), some (pO 10 8 0), some (pO 20 9 0), some (pO 40 10 0), some (pI (x4 + 4)), none, none, none, none]) ⟨rfl, ⟨rfl, ⟨rfl, ⟨rfl, ⟨rfl, trivial⟩⟩⟩⟩⟩ ?_
                        exact h
                      · replace h := h.2 q76
                        refine Wq.aload_n (t := 40) (r := 10) (j := 0) dL_law_485 rfl ?_
                        refine Wq.iconst (v := 0) dL_law_486 (by decide) ?_
                        refine Wq.lald dL_law_487 ?_
                        refine Wq.iload (x := r73) dL_law_488 rfl ?_
                        refine Wq.i2l dL_law_490 ?_
                        refine Wq.lcmp dL_law_491 ?_
                        refine Wq.ifeq (tgt := 497) dL_law_492 (by decide) (fun q77 => ?_) (fun q77 => ?_)
                        · replace h := h.1 q77
                          refine Wq.goto (tgt := 1437) dL_law_497 (by decide) ?_
                          refine Wq.iinc (x := x4) (ls2 := [some (pO 41 10 0), some (pO 10 8 0), some (pO 20 9 0), some (pO 40 10 0), some (pI (x4 + 4)), some (pI r64), some (pI r73), none, none]) dL_law_1437 rfl (by decide) rfl ?_
                          refine Wq.goto (tgt := 23) dL_law_1440 (by decide) ?_
                          refine Wq.few (ls' := [some (pO 41 10 0), some (pO 10 8 0), some (pO 20 9 0), some (pO 40 10 0), some (pI (x4 + 4)), none, none, none, none]) ⟨rfl, ⟨rfl, ⟨rfl, ⟨rfl, ⟨rfl, trivial⟩⟩⟩⟩⟩ ?_
                          exact h
                        · replace h := h.2 q77
                          refine Wq.iconst (v := 0) dL_law_495 (by decide) ?_
                          exact Wq.iret dL_law_496 (⟨_, rfl, by decide⟩) h
                    · replace h := h.2 q75
                      refine Wq.iconst (v := 0) dL_law_478 (by decide) ?_
                      exact Wq.iret dL_law_479 (⟨_, rfl, by decide⟩) h
              · replace h := h.2 q47
                by_cases q79 : ((gx g (ix x4)) &&& 31) = 6
                · replace h := h.1 q79
                  refine Wq.tableIn (tgt := 500) dL_law_39 (by rw [q79]; decide) (by rw [q79]; decide) (by rw [q79]; rfl) (by decide) ?_
                  refine Wq.aload_n (t := 10) (r := 8) (j := 0) dL_law_500 rfl ?_
                  refine Wq.aload_n (t := 40) (r := 10) (j := 0) dL_law_501 rfl ?_
                  refine Wq.callH (As := [pO 10 8 0, pO 40 10 0]) dL_law_502 fL_next ml_L_111 rfl (Nat.le_of_ble_eq_true rfl) (Nat.le_of_ble_eq_true rfl) h (fun r80 h81 h => ?_)
                  refine Wq.istore (ls2 := [some (pO 41 10 0), some (pO 10 8 0), some (pO 20 9 0), some (pO 40 10 0), some (pI x4), some (pI r80), none, none, none]) dL_law_505 (by decide) rfl ?_
                  refine Wq.aload_n (t := 20) (r := 9) (j := 0) dL_law_507 rfl ?_
                  refine Wq.callVI (As := []) dL_law_508 fX5_next ml_L_113 rfl (by decide) rfl (Nat.le_of_ble_eq_true rfl) (Nat.le_of_ble_eq_true rfl) h (fun r82 h83 h => ?_)
                  refine Wq.istore (ls2 := [some (pO 41 10 0), some (pO 10 8 0), some (pO 20 9 0), some (pO 40 10 0), some (pI x4), some (pI r80), some (pI r82), none, none]) dL_law_511 (by decide) rfl ?_
                  refine Wq.aload_n (t := 20) (r := 9) (j := 0) dL_law_513 rfl ?_
                  refine Wq.callVI (As := []) dL_law_514 fX5_thrown ml_L_90 rfl (by decide) rfl (Nat.le_of_ble_eq_true rfl) (Nat.le_of_ble_eq_true rfl) (suX5_thrown trivial) (fun x87 m9 e9 => ?_)
                  obtain ⟨rfl, rfl⟩ := e9
                  refine Wq.iload (x := r80) dL_law_517 rfl ?_
                  refine Wq.icmpeq (tgt := 524) dL_law_519 (by decide) (fun q84 => ?_) (fun q84 => ?_)
                  · replace h := h.1 q84
                    refine Wq.iload (x := r80) dL_law_524 rfl ?_
                    refine Wq.ifne (tgt := 541) dL_law_526 (by decide) (fun q85 => ?_) (fun q85 => ?_)
                    · replace h := h.1 q85
                      refine Wq.goto (tgt := 1437) dL_law_541 (by decide) ?_
                      refine Wq.iinc (x := x4) (ls2 := [some (pO 41 10 0), some (pO 10 8 0), some (pO 20 9 0), some (pO 40 10 0), some (pI (x4 + 4)), some (pI r80), some (pI r82), none, none]) dL_law_1437 rfl (by decide) rfl ?_
                      refine Wq.goto (tgt := 23) dL_law_1440 (by decide) ?_
                      refine Wq.few (ls' := [some (pO 41 10 0), some (pO 10 8 0), some (pO 20 9 0), some (pO 40 10 0), some (pI (x4 + 4)), none, none, none, none]) ⟨rfl, ⟨rfl, ⟨rfl, ⟨rfl, ⟨rfl, trivial⟩⟩⟩⟩⟩ ?_
                      exact h
                    · replace h := h.2 q85
                      refine Wq.aload_n (t := 40) (r := 10) (j := 0) dL_law_529 rfl ?_
                      refine Wq.iconst (v := 0) dL_law_530 (by decide) ?_
                      refine Wq.lald dL_law_531 ?_
                      refine Wq.iload (x := r82) dL_law_532 rfl ?_
                      refine Wq.i2l dL_law_534 ?_
                      refine Wq.lcmp dL_law_535 ?_
                      refine Wq.ifeq (tgt := 541) dL_law_536 (by decide) (fun q86 => ?_) (fun q86 => ?_)
                      · replace h := h.1 q86
                        refine Wq.goto (tgt := 1437) dL_law_541 (by decide) ?_
                        refine Wq.iinc (x := x4) (ls2 := [some (pO 41 10 0), some (pO 10 8 0), some (pO 20 9 0), some (pO 40 10 0), some (pI (x4 + 4)), some (pI r80), some (pI r82), none, none]) dL_law_1437 rfl (by decide) rfl ?_
                        refine Wq.goto (tgt := 23) dL_law_1440 (by decide) ?_
                        refine Wq.few (ls' := [some (pO 41 10 0), some (pO 10 8 0), some (pO 20 9 0), some (pO 40 10 0), some (pI (x4 + 4)), none, none, none, none]) ⟨rfl, ⟨rfl, ⟨rfl, ⟨rfl, ⟨rfl, trivial⟩⟩⟩⟩⟩ ?_
                        exact h
                      · replace h := h.2 q86
                        refine Wq.iconst (v := 0) dL_law_539 (by decide) ?_
                        exact Wq.iret dL_law_540 (⟨_, rfl, by decide⟩) h
                  · replace h := h.2 q84
                    refine Wq.iconst (v := 0) dL_law_522 (by decide) ?_
                    exact Wq.iret dL_law_523 (⟨_, rfl, by decide⟩) h
                · replace h := h.2 q79
                  by_cases q88 : ((gx g (ix x4)) &&& 31) = 7
                  · replace h := h.1 q88
                    refine Wq.tableIn (tgt := 544) dL_law_39 (by rw [q88]; decide) (by rw [q88]; decide) (by rw [q88]; rfl) (by decide) ?_
                    refine Wq.aload_n (t := 10) (r := 8) (j := 0) dL_law_544 rfl ?_
                    refine Wq.aload_n (t := 41) (r := 10) (j := 0) dL_law_545 rfl ?_
                    refine Wq.iload (x := x4) dL_law_546 rfl ?_
                    refine Wq.iconst (v := 1) dL_law_548 (by decide) ?_
                    refine Wq.iadd dL_law_549 ?_
                    refine Wq.ialdS dL_law_550 h.1 ?_
                    replace h := h.2
                    refine Wq.aload_n (t := 41) (r := 10) (j := 0) dL_law_551 rfl ?_
                    refine Wq.iload (x := x4) dL_law_552 rfl ?_
                    refine Wq.iconst (v := 2) dL_law_554 (by decide) ?_
                    refine Wq.iadd dL_law_555 ?_
                    refine Wq.ialdS dL_law_556 h.1 ?_
                    replace h := h.2
                    refine Wq.aload_n (t := 40) (r := 10) (j := 0) dL_law_557 rfl ?_
                    refine Wq.callH (As := [pO 10 8 0, pI (gx g (ix (x4 + 1))), pI (gx g (ix (x4 + 2))), pO 40 10 0]) dL_law_558 fL_set ml_L_114 rfl (Nat.le_of_ble_eq_true rfl) (Nat.le_of_ble_eq_true rfl) h (fun r89 h90 h => ?_)
                    refine Wq.istore (ls2 := [some (pO 41 10 0), some (pO 10 8 0), some (pO 20 9 0), some (pO 40 10 0), some (pI x4), some (pI r89), none, none, none]) dL_law_561 (by decide) rfl ?_
                    refine Wq.aload_n (t := 20) (r := 9) (j := 0) dL_law_563 rfl ?_
                    refine Wq.aload_n (t := 41) (r := 10) (j := 0) dL_law_564 rfl ?_
                    refine Wq.iload (x := x4) dL_law_565 rfl ?_
                    refine Wq.iconst (v := 1) dL_law_567 (by decide) ?_
                    refine Wq.iadd dL_law_568 ?_
                    refine Wq.ialdS dL_law_569 h.1 ?_
                    replace h := h.2
                    refine Wq.aload_n (t := 41) (r := 10) (j := 0) dL_law_570 rfl ?_
                    refine Wq.iload (x := x4) dL_law_571 rfl ?_
                    refine Wq.iconst (v := 2) dL_law_573 (by decide) ?_
                    refine Wq.iadd dL_law_574 ?_
                    refine Wq.ialdS dL_law_575 h.1 ?_
                    replace h := h.2
                    refine Wq.callVI (As := [pI (gx g (ix (x4 + 1))), pI (gx g (ix (x4 + 2)))]) dL_law_576 fX5_set ml_L_116 rfl (by decide) rfl (Nat.le_of_ble_eq_true rfl) (Nat.le_of_ble_eq_true rfl) h (fun r91 h92 h => ?_)
                    refine Wq.istore (ls2 := [some (pO 41 10 0), some (pO 10 8 0), some (pO 20 9 0), some (pO 40 10 0), some (pI x4), some (pI r89), some (pI r91), none, none]) dL_law_579 (by decide) rfl ?_
                    refine Wq.aload_n (t := 20) (r := 9) (j := 0) dL_law_581 rfl ?_
                    refine Wq.callVI (As := []) dL_law_582 fX5_thrown ml_L_90 rfl (by decide) rfl (Nat.le_of_ble_eq_true rfl) (Nat.le_of_ble_eq_true rfl) (suX5_thrown trivial) (fun x96 m9 e9 => ?_)
                    obtain ⟨rfl, rfl⟩ := e9
                    refine Wq.iload (x := r89) dL_law_585 rfl ?_
                    refine Wq.icmpeq (tgt := 592) dL_law_587 (by decide) (fun q93 => ?_) (fun q93 => ?_)
                    · replace h := h.1 q93
                      refine Wq.iload (x := r89) dL_law_592 rfl ?_
                      refine Wq.ifne (tgt := 609) dL_law_594 (by decide) (fun q94 => ?_) (fun q94 => ?_)
                      · replace h := h.1 q94
                        refine Wq.goto (tgt := 1437) dL_law_609 (by decide) ?_
                        refine Wq.iinc (x := x4) (ls2 := [some (pO 41 10 0), some (pO 10 8 0), some (pO 20 9 0), some (pO 40 10 0), some (pI (x4 + 4)), some (pI r89), some (pI r91), none, none]) dL_law_1437 rfl (by decide) rfl ?_
                        refine Wq.goto (tgt := 23) dL_law_1440 (by decide) ?_
                        refine Wq.few (ls' := [some (pO 41 10 0), some (pO 10 8 0), some (pO 20 9 0), some (pO 40 10 0), some (pI (x4 + 4)), none, none, none, none]) ⟨rfl, ⟨rfl, ⟨rfl, ⟨rfl, ⟨rfl, trivial⟩⟩⟩⟩⟩ ?_
                        exact h
                      · replace h := h.2 q94
                        refine Wq.aload_n (t := 40) (r := 10) (j := 0) dL_law_597 rfl ?_
                        refine Wq.iconst (v := 0) dL_law_598 (by decide) ?_
                        refine Wq.lald dL_law_599 ?_
                        refine Wq.iload (x := r91) dL_law_600 rfl ?_
                        refine Wq.i2l dL_law_602 ?_
                        refine Wq.lcmp dL_law_603 ?_
                        refine Wq.ifeq (tgt := 609) dL_law_604 (by decide) (fun q95 => ?_) (fun q95 => ?_)
                        · replace h := h.1 q95
                          refine Wq.goto (tgt := 1437) dL_law_609 (by decide) ?_
                          refine Wq.iinc (x := x4) (ls2 := [some (pO 41 10 0), some (pO 10 8 0), some (pO 20 9 0), some (pO 40 10 0), some (pI (x4 + 4)), some (pI r89), some (pI r91), none, none]) dL_law_1437 rfl (by decide) rfl ?_
                          refine Wq.goto (tgt := 23) dL_law_1440 (by decide) ?_
                          refine Wq.few (ls' := [some (pO 41 10 0), some (pO 10 8 0), some (pO 20 9 0), some (pO 40 10 0), some (pI (x4 + 4)), none, none, none, none]) ⟨rfl, ⟨rfl, ⟨rfl, ⟨rfl, ⟨rfl, trivial⟩⟩⟩⟩⟩ ?_
                          exact h
                        · replace h := h.2 q95
                          refine Wq.iconst (v := 0) dL_law_607 (by decide) ?_
                          exact Wq.iret dL_law_608 (⟨_, rfl, by decide⟩) h
                    · replace h := h.2 q93
                      refine Wq.iconst (v := 0) dL_law_590 (by decide) ?_
                      exact Wq.iret dL_law_591 (⟨_, rfl, by decide⟩) h
                  · replace h := h.2 q88
                    by_cases q97 : ((gx g (ix x4)) &&& 31) = 8
                    · replace h := h.1 q97
                      refine Wq.tableIn (tgt := 612) dL_law_39 (by rw [q97]; decide) (by rw [q97]; decide) (by rw [q97]; rfl) (by decide) ?_
                      refine Wq.aload_n (t := 10) (r := 8) (j := 0) dL_law_612 rfl ?_
                      refine Wq.aload_n (t := 41) (r := 10) (j := 0) dL_law_613 rfl ?_
                      refine Wq.iload (x := x4) dL_law_614 rfl ?_
                      refine Wq.iconst (v := 1) dL_law_616 (by decide) ?_
                      refine Wq.iadd dL_law_617 ?_
                      refine Wq.ialdS dL_law_618 h.1 ?_
                      replace h := h.2
                      refine Wq.aload_n (t := 40) (r := 10) (j := 0) dL_law_619 rfl ?_
                      refine Wq.callH (As := [pO 10 8 0, pI (gx g (ix (x4 + 1))), pO 40 10 0]) dL_law_620 fL_append ml_L_117 rfl (Nat.le_of_ble_eq_true rfl) (Nat.le_of_ble_eq_true rfl) h (fun r98 h99 h => ?_)
                      refine Wq.istore (ls2 := [some (pO 41 10 0), some (pO 10 8 0), some (pO 20 9 0), some (pO 40 10 0), some (pI x4), some (pI r98), none, none, none]) dL_law_623 (by decide) rfl ?_
                      refine Wq.aload_n (t := 20) (r := 9) (j := 0) dL_law_625 rfl ?_
                      refine Wq.aload_n (t := 41) (r := 10) (j := 0) dL_law_626 rfl ?_
                      refine Wq.iload (x := x4) dL_law_627 rfl ?_
                      refine Wq.iconst (v := 1) dL_law_629 (by decide) ?_
                      refine Wq.iadd dL_law_630 ?_
                      refine Wq.ialdS dL_law_631 h.1 ?_
                      replace h := h.2
                      refine Wq.callVI (As := [pI (gx g (ix (x4 + 1)))]) dL_law_632 fX5_append ml_L_119 rfl (by decide) rfl (Nat.le_of_ble_eq_true rfl) (Nat.le_of_ble_eq_true rfl) h (fun r100 h101 h => ?_)
                      refine Wq.istore (ls2 := [some (pO 41 10 0), some (pO 10 8 0), some (pO 20 9 0), some (pO 40 10 0), some (pI x4), some (pI r98), some (pI r100), none, none]) dL_law_635 (by decide) rfl ?_
                      refine Wq.aload_n (t := 20) (r := 9) (j := 0) dL_law_637 rfl ?_
                      refine Wq.callVI (As := []) dL_law_638 fX5_thrown ml_L_90 rfl (by decide) rfl (Nat.le_of_ble_eq_true rfl) (Nat.le_of_ble_eq_true rfl) (suX5_thrown trivial) (fun x105 m9 e9 => ?_)
                      obtain ⟨rfl, rfl⟩ := e9
                      refine Wq.iload (x := r98) dL_law_641 rfl ?_
                      refine Wq.icmpeq (tgt := 648) dL_law_643 (by decide) (fun q102 => ?_) (fun q102 => ?_)
                      · replace h := h.1 q102
                        refine Wq.iload (x := r98) dL_law_648 rfl ?_
                        refine Wq.ifne (tgt := 665) dL_law_650 (by decide) (fun q103 => ?_) (fun q103 => ?_)
                        · replace h := h.1 q103
                          refine Wq.goto (tgt := 1437) dL_law_665 (by decide) ?_
                          refine Wq.iinc (x := x4) (ls2 := [some (pO 41 10 0), some (pO 10 8 0), some (pO 20 9 0), some (pO 40 10 0), some (pI (x4 + 4)), some (pI r98), some (pI r100), none, none]) dL_law_1437 rfl (by decide) rfl ?_
                          refine Wq.goto (tgt := 23) dL_law_1440 (by decide) ?_
                          refine Wq.few (ls' := [some (pO 41 10 0), some (pO 10 8 0), some (pO 20 9 0), some (pO 40 10 0), some (pI (x4 + 4)), none, none, none, none]) ⟨rfl, ⟨rfl, ⟨rfl, ⟨rfl, ⟨rfl, trivial⟩⟩⟩⟩⟩ ?_
                          exact h
                        · replace h := h.2 q103
                          refine Wq.aload_n (t := 40) (r := 10) (j := 0) dL_law_653 rfl ?_
                          refine Wq.iconst (v := 0) dL_law_654 (by decide) ?_
                          refine Wq.lald dL_law_655 ?_
                          refine Wq.iload (x := r100) dL_law_656 rfl ?_
                          refine Wq.i2l dL_law_658 ?_
                          refine Wq.lcmp dL_law_659 ?_
                          refine Wq.ifeq (tgt := 665) dL_law_660 (by decide) (fun q104 => ?_) (fun q104 => ?_)
                          · replace h := h.1 q104
                            refine Wq.goto (tgt := 1437) dL_law_665 (by decide) ?_
                            refine Wq.iinc (x := x4) (ls2 := [some (pO 41 10 0), some (pO 10 8 0), some (pO 20 9 0), some (pO 40 10 0), some (pI (x4 + 4)), some (pI r98), some (pI r100), none, none]) dL_law_1437 rfl (by decide) rfl ?_
                            refine Wq.goto (tgt := 23) dL_law_1440 (by decide) ?_
                            refine Wq.few (ls' := [some (pO 41 10 0), some (pO 10 8 0), some (pO 20 9 0), some (pO 40 10 0), some (pI (x4 + 4)), none, none, none, none]) ⟨rfl, ⟨rfl, ⟨rfl, ⟨rfl, ⟨rfl, trivial⟩⟩⟩⟩⟩ ?_
                            exact h
                          · replace h := h.2 q104
                            refine Wq.iconst (v := 0) dL_law_663 (by decide) ?_
                            exact Wq.iret dL_law_664 (⟨_, rfl, by decide⟩) h
                      · replace h := h.2 q102
                        refine Wq.iconst (v := 0) dL_law_646 (by decide) ?_
                        exact Wq.iret dL_law_647 (⟨_, rfl, by decide⟩) h
                    · replace h := h.2 q97
                      by_cases q106 : ((gx g (ix x4)) &&& 31) = 9
                      · replace h := h.1 q106
                        refine Wq.tableIn (tgt := 668) dL_law_39 (by rw [q106]; decide) (by rw [q106]; decide) (by rw [q106]; rfl) (by decide) ?_
                        refine Wq.aload_n (t := 10) (r := 8) (j := 0) dL_law_668 rfl ?_
                        refine Wq.callVI (As := []) dL_law_669 fX4_clearBuffer ml_L_120 rfl (by decide) rfl (Nat.le_of_ble_eq_true rfl) (Nat.le_of_ble_eq_true rfl) h (fun r107 m108 h => ?_)
                        refine Wq.aload_n (t := 20) (r := 9) (j := 0) dL_law_672 rfl ?_
                        refine Wq.callVI (As := []) dL_law_673 fX5_clearBuffer ml_L_123 rfl (by decide) rfl (Nat.le_of_ble_eq_true rfl) (Nat.le_of_ble_eq_true rfl) h (fun r109 m110 h => ?_)
                        refine Wq.icmpeq (tgt := 1437) dL_law_676 (by decide) (fun q111 => ?_) (fun q111 => ?_)
                        · replace h := h.1 q111
                          refine Wq.iinc (x := x4) (ls2 := [some (pO 41 10 0), some (pO 10 8 0), some (pO 20 9 0), some (pO 40 10 0), some (pI (x4 + 4)), none, none, none, none]) dL_law_1437 rfl (by decide) rfl ?_
                          refine Wq.goto (tgt := 23) dL_law_1440 (by decide) ?_
                          exact h
                        · replace h := h.2 q111
                          refine Wq.iconst (v := 0) dL_law_679 (by decide) ?_
                          exact Wq.iret dL_law_680 (⟨_, rfl, by decide⟩) h
                      · replace h := h.2 q106
                        by_cases q112 : ((gx g (ix x4)) &&& 31) = 10
                        · replace h := h.1 q112
                          refine Wq.tableIn (tgt := 681) dL_law_39 (by rw [q112]; decide) (by rw [q112]; decide) (by rw [q112]; rfl) (by decide) ?_
                          refine Wq.aload_n (t := 10) (r := 8) (j := 0) dL_law_681 rfl ?_
                          refine Wq.callVI (As := []) dL_law_682 fX4_firstError ml_L_124 rfl (by decide) rfl (Nat.le_of_ble_eq_true rfl) (Nat.le_of_ble_eq_true rfl) h (fun r113 m114 h => ?_)
                          refine Wq.aload_n (t := 20) (r := 9) (j := 0) dL_law_685 rfl ?_
                          refine Wq.callVI (As := []) dL_law_686 fX5_firstError ml_L_127 rfl (by decide) rfl (Nat.le_of_ble_eq_true rfl) (Nat.le_of_ble_eq_true rfl) h (fun r115 m116 h => ?_)
                          refine Wq.icmpeq (tgt := 1437) dL_law_689 (by decide) (fun q117 => ?_) (fun q117 => ?_)
                          · replace h := h.1 q117
                            refine Wq.iinc (x := x4) (ls2 := [some (pO 41 10 0), some (pO 10 8 0), some (pO 20 9 0), some (pO 40 10 0), some (pI (x4 + 4)), none, none, none, none]) dL_law_1437 rfl (by decide) rfl ?_
                            refine Wq.goto (tgt := 23) dL_law_1440 (by decide) ?_
                            exact h
                          · replace h := h.2 q117
                            refine Wq.iconst (v := 0) dL_law_692 (by decide) ?_
                            exact Wq.iret dL_law_693 (⟨_, rfl, by decide⟩) h
                        · replace h := h.2 q112
                          by_cases q118 : ((gx g (ix x4)) &&& 31) = 11
                          · replace h := h.1 q118
                            refine Wq.tableIn (tgt := 694) dL_law_39 (by rw [q118]; decide) (by rw [q118]; decide) (by rw [q118]; rfl) (by decide) ?_
                            refine Wq.aload_n (t := 10) (r := 8) (j := 0) dL_law_694 rfl ?_
                            refine Wq.aload_n (t := 40) (r := 10) (j := 0) dL_law_695 rfl ?_
                            refine Wq.callH (As := [pO 10 8 0, pO 40 10 0]) dL_law_696 fL_run ml_L_128 rfl (Nat.le_of_ble_eq_true rfl) (Nat.le_of_ble_eq_true rfl) h (fun r119 h120 h => ?_)
                            refine Wq.istore (ls2 := [some (pO 41 10 0), some (pO 10 8 0), some (pO 20 9 0), some (pO 40 10 0), some (pI x4), some (pI r119), none, none, none]) dL_law_699 (by decide) rfl ?_
                            refine Wq.aload_n (t := 20) (r := 9) (j := 0) dL_law_701 rfl ?_
                            refine Wq.callVI (As := []) dL_law_702 fX5_run ml_L_130 rfl (by decide) rfl (Nat.le_of_ble_eq_true rfl) (Nat.le_of_ble_eq_true rfl) h (fun r121 h122 h => ?_)
                            refine Wq.istore (ls2 := [some (pO 41 10 0), some (pO 10 8 0), some (pO 20 9 0), some (pO 40 10 0), some (pI x4), some (pI r119), some (pI r121), none, none]) dL_law_705 (by decide) rfl ?_
                            refine Wq.aload_n (t := 20) (r := 9) (j := 0) dL_law_707 rfl ?_
                            refine Wq.callVI (As := []) dL_law_708 fX5_thrown ml_L_90 rfl (by decide) rfl (Nat.le_of_ble_eq_true rfl) (Nat.le_of_ble_eq_true rfl) (suX5_thrown trivial) (fun x126 m9 e9 => ?_)
                            obtain ⟨rfl, rfl⟩ := e9
                            refine Wq.iload (x := r119) dL_law_711 rfl ?_
                            refine Wq.icmpeq (tgt := 718) dL_law_713 (by decide) (fun q123 => ?_) (fun q123 => ?_)
                            · replace h := h.1 q123
                              refine Wq.iload (x := r119) dL_law_718 rfl ?_
                              refine Wq.ifne (tgt := 735) dL_law_720 (by decide) (fun q124 => ?_) (fun q124 => ?_)
                              · replace h := h.1 q124
                                refine Wq.goto (tgt := 1437) dL_law_735 (by decide) ?_
                                refine Wq.iinc (x := x4) (ls2 := [some (pO 41 10 0), some (pO 10 8 0), some (pO 20 9 0), some (pO 40 10 0), some (pI (x4 + 4)), some (pI r119), some (pI r121), none, none]) dL_law_1437 rfl (by decide) rfl ?_
                                refine Wq.goto (tgt := 23) dL_law_1440 (by decide) ?_
                                refine Wq.few (ls' := [some (pO 41 10 0), some (pO 10 8 0), some (pO 20 9 0), some (pO 40 10 0), some (pI (x4 + 4)), none, none, none, none]) ⟨rfl, ⟨rfl, ⟨rfl, ⟨rfl, ⟨rfl, trivial⟩⟩⟩⟩⟩ ?_
                                exact h
                              · replace h := h.2 q124
                                refine Wq.aload_n (t := 40) (r := 10) (j := 0) dL_law_723 rfl ?_
                                refine Wq.iconst (v := 0) dL_law_724 (by decide) ?_
                                refine Wq.lald dL_law_725 ?_
                                refine Wq.iload (x := r121) dL_law_726 rfl ?_
                                refine Wq.i2l dL_law_728 ?_
                                refine Wq.lcmp dL_law_729 ?_
                                refine Wq.ifeq (tgt := 735) dL_law_730 (by decide) (fun q125 => ?_) (fun q125 => ?_)
                                · replace h := h.1 q125
                                  refine Wq.goto (tgt := 1437) dL_law_735 (by decide) ?_
                                  refine Wq.iinc (x := x4) (ls2 := [some (pO 41 10 0), some (pO 10 8 0), some (pO 20 9 0), some (pO 40 10 0), some (pI (x4 + 4)), some (pI r119), some (pI r121), none, none]) dL_law_1437 rfl (by decide) rfl ?_
                                  refine Wq.goto (tgt := 23) dL_law_1440 (by decide) ?_
                                  refine Wq.few (ls' := [some (pO 41 10 0), some (pO 10 8 0), some (pO 20 9 0), some (pO 40 10 0), some (pI (x4 + 4)), none, none, none, none]) ⟨rfl, ⟨rfl, ⟨rfl, ⟨rfl, ⟨rfl, trivial⟩⟩⟩⟩⟩ ?_
                                  exact h
                                · replace h := h.2 q125
                                  refine Wq.iconst (v := 0) dL_law_733 (by decide) ?_
                                  exact Wq.iret dL_law_734 (⟨_, rfl, by decide⟩) h
                            · replace h := h.2 q123
                              refine Wq.iconst (v := 0) dL_law_716 (by decide) ?_
                              exact Wq.iret dL_law_717 (⟨_, rfl, by decide⟩) h
                          · replace h := h.2 q118
                            by_cases q127 : ((gx g (ix x4)) &&& 31) = 12
                            · replace h := h.1 q127
                              refine Wq.tableIn (tgt := 738) dL_law_39 (by rw [q127]; decide) (by rw [q127]; decide) (by rw [q127]; rfl) (by decide) ?_
                              refine Wq.aload_n (t := 10) (r := 8) (j := 0) dL_law_738 rfl ?_
                              refine Wq.aload_n (t := 40) (r := 10) (j := 0) dL_law_739 rfl ?_
                              refine Wq.callH (As := [pO 10 8 0, pO 40 10 0]) dL_law_740 fL_undo ml_L_131 rfl (Nat.le_of_ble_eq_true rfl) (Nat.le_of_ble_eq_true rfl) h (fun r128 h129 h => ?_)
                              refine Wq.istore (ls2 := [some (pO 41 10 0), some (pO 10 8 0), some (pO 20 9 0), some (pO 40 10 0), some (pI x4), some (pI r128), none, none, none]) dL_law_743 (by decide) rfl ?_
                              refine Wq.aload_n (t := 20) (r := 9) (j := 0) dL_law_745 rfl ?_
                              refine Wq.callVI (As := []) dL_law_746 fX5_undo ml_L_133 rfl (by decide) rfl (Nat.le_of_ble_eq_true rfl) (Nat.le_of_ble_eq_true rfl) h (fun r130 h131 h => ?_)
                              refine Wq.istore (ls2 := [some (pO 41 10 0), some (pO 10 8 0), some (pO 20 9 0), some (pO 40 10 0), some (pI x4), some (pI r128), some (pI r130), none, none]) dL_law_749 (by decide) rfl ?_
                              refine Wq.aload_n (t := 20) (r := 9) (j := 0) dL_law_751 rfl ?_
                              refine Wq.callVI (As := []) dL_law_752 fX5_thrown ml_L_90 rfl (by decide) rfl (Nat.le_of_ble_eq_true rfl) (Nat.le_of_ble_eq_true rfl) (suX5_thrown trivial) (fun x135 m9 e9 => ?_)
                              obtain ⟨rfl, rfl⟩ := e9
                              refine Wq.iload (x := r128) dL_law_755 rfl ?_
                              refine Wq.icmpeq (tgt := 762) dL_law_757 (by decide) (fun q132 => ?_) (fun q132 => ?_)
                              · replace h := h.1 q132
                                refine Wq.iload (x := r128) dL_law_762 rfl ?_
                                refine Wq.ifne (tgt := 779) dL_law_764 (by decide) (fun q133 => ?_) (fun q133 => ?_)
                                · replace h := h.1 q133
                                  refine Wq.goto (tgt := 1437) dL_law_779 (by decide) ?_
                                  refine Wq.iinc (x := x4) (ls2 := [some (pO 41 10 0), some (pO 10 8 0), some (pO 20 9 0), some (pO 40 10 0), some (pI (x4 + 4)), some (pI r128), some (pI r130), none, none]) dL_law_1437 rfl (by decide) rfl ?_
                                  refine Wq.goto (tgt := 23) dL_law_1440 (by decide) ?_
                                  refine Wq.few (ls' := [some (pO 41 10 0), some (pO 10 8 0), some (pO 20 9 0), some (pO 40 10 0), some (pI (x4 + 4)), none, none, none, none]) ⟨rfl, ⟨rfl, ⟨rfl, ⟨rfl, ⟨rfl, trivial⟩⟩⟩⟩⟩ ?_
                                  exact h
                                · replace h := h.2 q133
                                  refine Wq.aload_n (t := 40) (r := 10) (j := 0) dL_law_767 rfl ?_
                                  refine Wq.iconst (v := 0) dL_law_768 (by decide) ?_
                                  refine Wq.lald dL_law_769 ?_
                                  refine Wq.iload (x := r130) dL_law_770 rfl ?_
                                  refine Wq.i2l dL_law_772 ?_
                                  refine Wq.lcmp dL_law_773 ?_
                                  refine Wq.ifeq (tgt := 779) dL_law_774 (by decide) (fun q134 => ?_) (fun q134 => ?_)
                                  · replace h := h.1 q134
                                    refine Wq.goto (tgt := 1437) dL_law_779 (by decide) ?_
                                    refine Wq.iinc (x := x4) (ls2 := [some (pO 41 10 0), some (pO 10 8 0), some (pO 20 9 0), some (pO 40 10 0), some (pI (x4 + 4)), some (pI r128), some (pI r130), none, none]) dL_law_1437 rfl (by decide) rfl ?_
                                    refine Wq.goto (tgt := 23) dL_law_1440 (by decide) ?_
                                    refine Wq.few (ls' := [some (pO 41 10 0), some (pO 10 8 0), some (pO 20 9 0), some (pO 40 10 0), some (pI (x4 + 4)), none, none, none, none]) ⟨rfl, ⟨rfl, ⟨rfl, ⟨rfl, ⟨rfl, trivial⟩⟩⟩⟩⟩ ?_
                                    exact h
                                  · replace h := h.2 q134
                                    refine Wq.iconst (v := 0) dL_law_777 (by decide) ?_
                                    exact Wq.iret dL_law_778 (⟨_, rfl, by decide⟩) h
                              · replace h := h.2 q132
                                refine Wq.iconst (v := 0) dL_law_760 (by decide) ?_
                                exact Wq.iret dL_law_761 (⟨_, rfl, by decide⟩) h
                            · replace h := h.2 q127
                              by_cases q136 : ((gx g (ix x4)) &&& 31) = 13
                              · replace h := h.1 q136
                                refine Wq.tableIn (tgt := 782) dL_law_39 (by rw [q136]; decide) (by rw [q136]; decide) (by rw [q136]; rfl) (by decide) ?_
                                refine Wq.aload_n (t := 10) (r := 8) (j := 0) dL_law_782 rfl ?_
                                refine Wq.aload_n (t := 41) (r := 10) (j := 0) dL_law_783 rfl ?_
                                refine Wq.iload (x := x4) dL_law_784 rfl ?_
                                refine Wq.iconst (v := 1) dL_law_786 (by decide) ?_
                                refine Wq.iadd dL_law_787 ?_
                                refine Wq.ialdS dL_law_788 h.1 ?_
                                replace h := h.2
                                refine Wq.aload_n (t := 41) (r := 10) (j := 0) dL_law_789 rfl ?_
                                refine Wq.iload (x := x4) dL_law_790 rfl ?_
                                refine Wq.iconst (v := 2) dL_law_792 (by decide) ?_
                                refine Wq.iadd dL_law_793 ?_
                                refine Wq.ialdS dL_law_794 h.1 ?_
                                replace h := h.2
                                refine Wq.aload_n (t := 40) (r := 10) (j := 0) dL_law_795 rfl ?_
                                refine Wq.callH (As := [pO 10 8 0, pI (gx g (ix (x4 + 1))), pI (gx g (ix (x4 + 2))), pO 40 10 0]) dL_law_796 fL_pupil ml_L_134 rfl (Nat.le_of_ble_eq_true rfl) (Nat.le_of_ble_eq_true rfl) h (fun r137 h138 h => ?_)
                                refine Wq.istore (ls2 := [some (pO 41 10 0), some (pO 10 8 0), some (pO 20 9 0), some (pO 40 10 0), some (pI x4), some (pI r137), none, none, none]) dL_law_799 (by decide) rfl ?_
                                refine Wq.aload_n (t := 20) (r := 9) (j := 0) dL_law_801 rfl ?_
                                refine Wq.aload_n (t := 41) (r := 10) (j := 0) dL_law_802 rfl ?_
                                refine Wq.iload (x := x4) dL_law_803 rfl ?_
                                refine Wq.iconst (v := 1) dL_law_805 (by decide) ?_
                                refine Wq.iadd dL_law_806 ?_
                                refine Wq.ialdS dL_law_807 h.1 ?_
                                replace h := h.2
                                refine Wq.aload_n (t := 41) (r := 10) (j := 0) dL_law_808 rfl ?_
                                refine Wq.iload (x := x4) dL_law_809 rfl ?_
                                refine Wq.iconst (v := 2) dL_law_811 (by decide) ?_
                                refine Wq.iadd dL_law_812 ?_
                                refine Wq.ialdS dL_law_813 h.1 ?_
                                replace h := h.2
                                refine Wq.callVI (As := [pI (gx g (ix (x4 + 1))), pI (gx g (ix (x4 + 2)))]) dL_law_814 fX5_pupil ml_L_136 rfl (by decide) rfl (Nat.le_of_ble_eq_true rfl) (Nat.le_of_ble_eq_true rfl) h (fun r139 h140 h => ?_)
                                refine Wq.istore (ls2 := [some (pO 41 10 0), some (pO 10 8 0), some (pO 20 9 0), some (pO 40 10 0), some (pI x4), some (pI r137), some (pI r139), none, none]) dL_law_817 (by decide) rfl ?_
                                refine Wq.aload_n (t := 20) (r := 9) (j := 0) dL_law_819 rfl ?_
                                refine Wq.callVI (As := []) dL_law_820 fX5_thrown ml_L_90 rfl (by decide) rfl (Nat.le_of_ble_eq_true rfl) (Nat.le_of_ble_eq_true rfl) (suX5_thrown trivial) (fun x144 m9 e9 => ?_)
                                obtain ⟨rfl, rfl⟩ := e9
                                refine Wq.iload (x := r137) dL_law_823 rfl ?_
                                refine Wq.icmpeq (tgt := 830) dL_law_825 (by decide) (fun q141 => ?_) (fun q141 => ?_)
                                · replace h := h.1 q141
                                  refine Wq.iload (x := r137) dL_law_830 rfl ?_
                                  refine Wq.ifne (tgt := 847) dL_law_832 (by decide) (fun q142 => ?_) (fun q142 => ?_)
                                  · replace h := h.1 q142
                                    refine Wq.goto (tgt := 1437) dL_law_847 (by decide) ?_
                                    refine Wq.iinc (x := x4) (ls2 := [some (pO 41 10 0), some (pO 10 8 0), some (pO 20 9 0), some (pO 40 10 0), some (pI (x4 + 4)), some (pI r137), some (pI r139), none, none]) dL_law_1437 rfl (by decide) rfl ?_
                                    refine Wq.goto (tgt := 23) dL_law_1440 (by decide) ?_
                                    refine Wq.few (ls' := [some (pO 41 10 0), some (pO 10 8 0), some (pO 20 9 0), some (pO 40 10 0), some (pI (x4 + 4)), none, none, none, none]) ⟨rfl, ⟨rfl, ⟨rfl, ⟨rfl, ⟨rfl, trivial⟩⟩⟩⟩⟩ ?_
                                    exact h
                                  · replace h := h.2 q142
                                    refine Wq.aload_n (t := 40) (r := 10) (j := 0) dL_law_835 rfl ?_
                                    refine Wq.iconst (v := 0) dL_law_836 (by decide) ?_
                                    refine Wq.lald dL_law_837 ?_
                                    refine Wq.iload (x := r139) dL_law_838 rfl ?_
                                    refine Wq.i2l dL_law_840 ?_
                                    refine Wq.lcmp dL_law_841 ?_
                                    refine Wq.ifeq (tgt := 847) dL_law_842 (by decide) (fun q143 => ?_) (fun q143 => ?_)
                                    · replace h := h.1 q143
                                      refine Wq.goto (tgt := 1437) dL_law_847 (by decide) ?_
                                      refine Wq.iinc (x := x4) (ls2 := [some (pO 41 10 0), some (pO 10 8 0), some (pO 20 9 0), some (pO 40 10 0), some (pI (x4 + 4)), some (pI r137), some (pI r139), none, none]) dL_law_1437 rfl (by decide) rfl ?_
                                      refine Wq.goto (tgt := 23) dL_law_1440 (by decide) ?_
                                      refine Wq.few (ls' := [some (pO 41 10 0), some (pO 10 8 0), some (pO 20 9 0), some (pO 40 10 0), some (pI (x4 + 4)), none, none, none, none]) ⟨rfl, ⟨rfl, ⟨rfl, ⟨rfl, ⟨rfl, trivial⟩⟩⟩⟩⟩ ?_
                                      exact h
                                    · replace h := h.2 q143
                                      refine Wq.iconst (v := 0) dL_law_845 (by decide) ?_
                                      exact Wq.iret dL_law_846 (⟨_, rfl, by decide⟩) h
                                · replace h := h.2 q141
                                  refine Wq.iconst (v := 0) dL_law_828 (by decide) ?_
                                  exact Wq.iret dL_law_829 (⟨_, rfl, by decide⟩) h
                              · replace h := h.2 q136
                                by_cases q145 : ((gx g (ix x4)) &&& 31) = 14
                                · replace h := h.1 q145
                                  refine Wq.tableIn (tgt := 850) dL_law_39 (by rw [q145]; decide) (by rw [q145]; decide) (by rw [q145]; rfl) (by decide) ?_
                                  refine Wq.aload_n (t := 10) (r := 8) (j := 0) dL_law_850 rfl ?_
                                  refine Wq.aload_n (t := 41) (r := 10) (j := 0) dL_law_851 rfl ?_
                                  refine Wq.iload (x := x4) dL_law_852 rfl ?_
                                  refine Wq.iconst (v := 1) dL_law_854 (by decide) ?_
                                  refine Wq.iadd dL_law_855 ?_
                                  refine Wq.ialdS dL_law_856 h.1 ?_
                                  replace h := h.2
                                  refine Wq.aload_n (t := 41) (r := 10) (j := 0) dL_law_857 rfl ?_
                                  refine Wq.iload (x := x4) dL_law_858 rfl ?_
                                  refine Wq.iconst (v := 2) dL_law_860 (by decide) ?_
                                  refine Wq.iadd dL_law_861 ?_
                                  refine Wq.ialdS dL_law_862 h.1 ?_
                                  replace h := h.2
                                  refine Wq.aload_n (t := 40) (r := 10) (j := 0) dL_law_863 rfl ?_
                                  refine Wq.callH (As := [pO 10 8 0, pI (gx g (ix (x4 + 1))), pI (gx g (ix (x4 + 2))), pO 40 10 0]) dL_law_864 fL_examiner ml_L_137 rfl (Nat.le_of_ble_eq_true rfl) (Nat.le_of_ble_eq_true rfl) h (fun r146 h147 h => ?_)
                                  refine Wq.istore (ls2 := [some (pO 41 10 0), some (pO 10 8 0), some (pO 20 9 0), some (pO 40 10 0), some (pI x4), some (pI r146), none, none, none]) dL_law_867 (by decide) rfl ?_
                                  refine Wq.aload_n (t := 20) (r := 9) (j := 0) dL_law_869 rfl ?_
                                  refine Wq.aload_n (t := 41) (r := 10) (j := 0) dL_law_870 rfl ?_
                                  refine Wq.iload (x := x4) dL_law_871 rfl ?_
                                  refine Wq.iconst (v := 1) dL_law_873 (by decide) ?_
                                  refine Wq.iadd dL_law_874 ?_
                                  refine Wq.ialdS dL_law_875 h.1 ?_
                                  replace h := h.2
                                  refine Wq.aload_n (t := 41) (r := 10) (j := 0) dL_law_876 rfl ?_
                                  refine Wq.iload (x := x4) dL_law_877 rfl ?_
                                  refine Wq.iconst (v := 2) dL_law_879 (by decide) ?_
                                  refine Wq.iadd dL_law_880 ?_
                                  refine Wq.ialdS dL_law_881 h.1 ?_
                                  replace h := h.2
                                  refine Wq.callVI (As := [pI (gx g (ix (x4 + 1))), pI (gx g (ix (x4 + 2)))]) dL_law_882 fX5_examiner ml_L_139 rfl (by decide) rfl (Nat.le_of_ble_eq_true rfl) (Nat.le_of_ble_eq_true rfl) h (fun r148 h149 h => ?_)
                                  refine Wq.istore (ls2 := [some (pO 41 10 0), some (pO 10 8 0), some (pO 20 9 0), some (pO 40 10 0), some (pI x4), some (pI r146), some (pI r148), none, none]) dL_law_885 (by decide) rfl ?_
                                  refine Wq.aload_n (t := 20) (r := 9) (j := 0) dL_law_887 rfl ?_
                                  refine Wq.callVI (As := []) dL_law_888 fX5_thrown ml_L_90 rfl (by decide) rfl (Nat.le_of_ble_eq_true rfl) (Nat.le_of_ble_eq_true rfl) (suX5_thrown trivial) (fun x153 m9 e9 => ?_)
                                  obtain ⟨rfl, rfl⟩ := e9
                                  refine Wq.iload (x := r146) dL_law_891 rfl ?_
                                  refine Wq.icmpeq (tgt := 898) dL_law_893 (by decide) (fun q150 => ?_) (fun q150 => ?_)
                                  · replace h := h.1 q150
                                    refine Wq.iload (x := r146) dL_law_898 rfl ?_
                                    refine Wq.ifne (tgt := 915) dL_law_900 (by decide) (fun q151 => ?_) (fun q151 => ?_)
                                    · replace h := h.1 q151
                                      refine Wq.goto (tgt := 1437) dL_law_915 (by decide) ?_
                                      refine Wq.iinc (x := x4) (ls2 := [some (pO 41 10 0), some (pO 10 8 0), some (pO 20 9 0), some (pO 40 10 0), some (pI (x4 + 4)), some (pI r146), some (pI r148), none, none]) dL_law_1437 rfl (by decide) rfl ?_
                                      refine Wq.goto (tgt := 23) dL_law_1440 (by decide) ?_
                                      refine Wq.few (ls' := [some (pO 41 10 0), some (pO 10 8 0), some (pO 20 9 0), some (pO 40 10 0), some (pI (x4 + 4)), none, none, none, none]) ⟨rfl, ⟨rfl, ⟨rfl, ⟨rfl, ⟨rfl, trivial⟩⟩⟩⟩⟩ ?_
                                      exact h
                                    · replace h := h.2 q151
                                      refine Wq.aload_n (t := 40) (r := 10) (j := 0) dL_law_903 rfl ?_
                                      refine Wq.iconst (v := 0) dL_law_904 (by decide) ?_
                                      refine Wq.lald dL_law_905 ?_
                                      refine Wq.iload (x := r148) dL_law_906 rfl ?_
                                      refine Wq.i2l dL_law_908 ?_
                                      refine Wq.lcmp dL_law_909 ?_
                                      refine Wq.ifeq (tgt := 915) dL_law_910 (by decide) (fun q152 => ?_) (fun q152 => ?_)
                                      · replace h := h.1 q152
                                        refine Wq.goto (tgt := 1437) dL_law_915 (by decide) ?_
                                        refine Wq.iinc (x := x4) (ls2 := [some (pO 41 10 0), some (pO 10 8 0), some (pO 20 9 0), some (pO 40 10 0), some (pI (x4 + 4)), some (pI r146), some (pI r148), none, none]) dL_law_1437 rfl (by decide) rfl ?_
                                        refine Wq.goto (tgt := 23) dL_law_1440 (by decide) ?_
                                        refine Wq.few (ls' := [some (pO 41 10 0), some (pO 10 8 0), some (pO 20 9 0), some (pO 40 10 0), some (pI (x4 + 4)), none, none, none, none]) ⟨rfl, ⟨rfl, ⟨rfl, ⟨rfl, ⟨rfl, trivial⟩⟩⟩⟩⟩ ?_
                                        exact h
                                      · replace h := h.2 q152
                                        refine Wq.iconst (v := 0) dL_law_913 (by decide) ?_
                                        exact Wq.iret dL_law_914 (⟨_, rfl, by decide⟩) h
                                  · replace h := h.2 q150
                                    refine Wq.iconst (v := 0) dL_law_896 (by decide) ?_
                                    exact Wq.iret dL_law_897 (⟨_, rfl, by decide⟩) h
                                · replace h := h.2 q145
                                  by_cases q154 : ((gx g (ix x4)) &&& 31) = 15
                                  · replace h := h.1 q154
                                    refine Wq.tableIn (tgt := 918) dL_law_39 (by rw [q154]; decide) (by rw [q154]; decide) (by rw [q154]; rfl) (by decide) ?_
                                    refine Wq.aload_n (t := 10) (r := 8) (j := 0) dL_law_918 rfl ?_
                                    refine Wq.aload_n (t := 41) (r := 10) (j := 0) dL_law_919 rfl ?_
                                    refine Wq.iload (x := x4) dL_law_920 rfl ?_
                                    refine Wq.iconst (v := 1) dL_law_922 (by decide) ?_
                                    refine Wq.iadd dL_law_923 ?_
                                    refine Wq.ialdS dL_law_924 h.1 ?_
                                    replace h := h.2
                                    refine Wq.aload_n (t := 41) (r := 10) (j := 0) dL_law_925 rfl ?_
                                    refine Wq.iload (x := x4) dL_law_926 rfl ?_
                                    refine Wq.iconst (v := 2) dL_law_928 (by decide) ?_
                                    refine Wq.iadd dL_law_929 ?_
                                    refine Wq.ialdS dL_law_930 h.1 ?_
                                    replace h := h.2
                                    refine Wq.aload_n (t := 41) (r := 10) (j := 0) dL_law_931 rfl ?_
                                    refine Wq.iload (x := x4) dL_law_932 rfl ?_
                                    refine Wq.iconst (v := 3) dL_law_934 (by decide) ?_
                                    refine Wq.iadd dL_law_935 ?_
                                    refine Wq.ialdS dL_law_936 h.1 ?_
                                    replace h := h.2
                                    refine Wq.aload_n (t := 40) (r := 10) (j := 0) dL_law_937 rfl ?_
                                    refine Wq.callH (As := [pO 10 8 0, pI (gx g (ix (x4 + 1))), pI (gx g (ix (x4 + 2))), pI (gx g (ix (x4 + 3))), pO 40 10 0]) dL_law_938 fL_slot ml_L_140 rfl (Nat.le_of_ble_eq_true rfl) (Nat.le_of_ble_eq_true rfl) h (fun r155 h156 h => ?_)
                                    refine Wq.istore (ls2 := [some (pO 41 10 0), some (pO 10 8 0), some (pO 20 9 0), some (pO 40 10 0), some (pI x4), some (pI r155), none, none, none]) dL_law_941 (by decide) rfl ?_
                                    refine Wq.aload_n (t := 20) (r := 9) (j := 0) dL_law_943 rfl ?_
                                    refine Wq.aload_n (t := 41) (r := 10) (j := 0) dL_law_944 rfl ?_
                                    refine Wq.iload (x := x4) dL_law_945 rfl ?_
                                    refine Wq.iconst (v := 1) dL_law_947 (by decide) ?_
                                    refine Wq.iadd dL_law_948 ?_
                                    refine Wq.ialdS dL_law_949 h.1 ?_
                                    replace h := h.2
                                    refine Wq.aload_n (t := 41) (r := 10) (j := 0) dL_law_950 rfl ?_
                                    refine Wq.iload (x := x4) dL_law_951 rfl ?_
                                    refine Wq.iconst (v := 2) dL_law_953 (by decide) ?_
                                    refine Wq.iadd dL_law_954 ?_
                                    refine Wq.ialdS dL_law_955 h.1 ?_
                                    replace h := h.2
                                    refine Wq.aload_n (t := 41) (r := 10) (j := 0) dL_law_956 rfl ?_
                                    refine Wq.iload (x := x4) dL_law_957 rfl ?_
                                    refine Wq.iconst (v := 3) dL_law_959 (by decide) ?_
                                    refine Wq.iadd dL_law_960 ?_
                                    refine Wq.ialdS dL_law_961 h.1 ?_
                                    replace h := h.2
                                    refine Wq.callVI (As := [pI (gx g (ix (x4 + 1))), pI (gx g (ix (x4 + 2))), pI (gx g (ix (x4 + 3)))]) dL_law_962 fX5_slot ml_L_143 rfl (by decide) rfl (Nat.le_of_ble_eq_true rfl) (Nat.le_of_ble_eq_true rfl) h (fun r157 h158 h => ?_)
                                    refine Wq.istore (ls2 := [some (pO 41 10 0), some (pO 10 8 0), some (pO 20 9 0), some (pO 40 10 0), some (pI x4), some (pI r155), some (pI r157), none, none]) dL_law_965 (by decide) rfl ?_
                                    refine Wq.aload_n (t := 20) (r := 9) (j := 0) dL_law_967 rfl ?_
                                    refine Wq.callVI (As := []) dL_law_968 fX5_thrown ml_L_90 rfl (by decide) rfl (Nat.le_of_ble_eq_true rfl) (Nat.le_of_ble_eq_true rfl) (suX5_thrown trivial) (fun x162 m9 e9 => ?_)
                                    obtain ⟨rfl, rfl⟩ := e9
                                    refine Wq.iload (x := r155) dL_law_971 rfl ?_
                                    refine Wq.icmpeq (tgt := 978) dL_law_973 (by decide) (fun q159 => ?_) (fun q159 => ?_)
                                    · replace h := h.1 q159
                                      refine Wq.iload (x := r155) dL_law_978 rfl ?_
                                      refine Wq.ifne (tgt := 995) dL_law_980 (by decide) (fun q160 => ?_) (fun q160 => ?_)
                                      · replace h := h.1 q160
                                        refine Wq.goto (tgt := 1437) dL_law_995 (by decide) ?_
                                        refine Wq.iinc (x := x4) (ls2 := [some (pO 41 10 0), some (pO 10 8 0), some (pO 20 9 0), some (pO 40 10 0), some (pI (x4 + 4)), some (pI r155), some (pI r157), none, none]) dL_law_1437 rfl (by decide) rfl ?_
                                        refine Wq.goto (tgt := 23) dL_law_1440 (by decide) ?_
                                        refine Wq.few (ls' := [some (pO 41 10 0), some (pO 10 8 0), some (pO 20 9 0), some (pO 40 10 0), some (pI (x4 + 4)), none, none, none, none]) ⟨rfl, ⟨rfl, ⟨rfl, ⟨rfl, ⟨rfl, trivial⟩⟩⟩⟩⟩ ?_
                                        exact h
                                      · replace h := h.2 q160
                                        refine Wq.aload_n (t := 40) (r := 10) (j := 0) dL_law_983 rfl ?_
                                        refine Wq.iconst (v := 0) dL_law_984 (by decide) ?_
                                        refine Wq.lald dL_law_985 ?_
                                        refine Wq.iload (x := r157) dL_law_986 rfl ?_
                                        refine Wq.i2l dL_law_988 ?_
                                        refine Wq.lcmp dL_law_989 ?_
                                        refine Wq.ifeq (tgt := 995) dL_law_990 (by decide) (fun q161 => ?_) (fun q161 => ?_)
                                        · replace h := h.1 q161
                                          refine Wq.goto (tgt := 1437) dL_law_995 (by decide) ?_
                                          refine Wq.iinc (x := x4) (ls2 := [some (pO 41 10 0), some (pO 10 8 0), some (pO 20 9 0), some (pO 40 10 0), some (pI (x4 + 4)), some (pI r155), some (pI r157), none, none]) dL_law_1437 rfl (by decide) rfl ?_
                                          refine Wq.goto (tgt := 23) dL_law_1440 (by decide) ?_
                                          refine Wq.few (ls' := [some (pO 41 10 0), some (pO 10 8 0), some (pO 20 9 0), some (pO 40 10 0), some (pI (x4 + 4)), none, none, none, none]) ⟨rfl, ⟨rfl, ⟨rfl, ⟨rfl, ⟨rfl, trivial⟩⟩⟩⟩⟩ ?_
                                          exact h
                                        · replace h := h.2 q161
                                          refine Wq.iconst (v := 0) dL_law_993 (by decide) ?_
                                          exact Wq.iret dL_law_994 (⟨_, rfl, by decide⟩) h
                                    · replace h := h.2 q159
                                      refine Wq.iconst (v := 0) dL_law_976 (by decide) ?_
                                      exact Wq.iret dL_law_977 (⟨_, rfl, by decide⟩) h
                                  · replace h := h.2 q154
                                    by_cases q163 : ((gx g (ix x4)) &&& 31) = 16
                                    · replace h := h.1 q163
                                      refine Wq.tableIn (tgt := 998) dL_law_39 (by rw [q163]; decide) (by rw [q163]; decide) (by rw [q163]; rfl) (by decide) ?_
                                      refine Wq.aload_n (t := 10) (r := 8) (j := 0) dL_law_998 rfl ?_
                                      refine Wq.aload_n (t := 41) (r := 10) (j := 0) dL_law_999 rfl ?_
                                      refine Wq.iload (x := x4) dL_law_1000 rfl ?_
                                      refine Wq.iconst (v := 1) dL_law_1002 (by decide) ?_
                                      refine Wq.iadd dL_law_1003 ?_
                                      refine Wq.ialdS dL_law_1004 h.1 ?_
                                      replace h := h.2
                                      refine Wq.aload_n (t := 40) (r := 10) (j := 0) dL_law_1005 rfl ?_
                                      refine Wq.callH (As := [pO 10 8 0, pI (gx g (ix (x4 + 1))), pO 40 10 0]) dL_law_1006 fL_count ml_L_144 rfl (Nat.le_of_ble_eq_true rfl) (Nat.le_of_ble_eq_true rfl) h (fun r164 h165 h => ?_)
                                      refine Wq.istore (ls2 := [some (pO 41 10 0), some (pO 10 8 0), some (pO 20 9 0), some (pO 40 10 0), some (pI x4), some (pI r164), none, none, none]) dL_law_1009 (by decide) rfl ?_
                                      refine Wq.aload_n (t := 20) (r := 9) (j := 0) dL_law_1011 rfl ?_
                                      refine Wq.aload_n (t := 41) (r := 10) (j := 0) dL_law_1012 rfl ?_
                                      refine Wq.iload (x := x4) dL_law_1013 rfl ?_
                                      refine Wq.iconst (v := 1) dL_law_1015 (by decide) ?_
                                      refine Wq.iadd dL_law_1016 ?_
                                      refine Wq.ialdS dL_law_1017 h.1 ?_
                                      replace h := h.2
                                      refine Wq.callVI (As := [pI (gx g (ix (x4 + 1)))]) dL_law_1018 fX5_count ml_L_146 rfl (by decide) rfl (Nat.le_of_ble_eq_true rfl) (Nat.le_of_ble_eq_true rfl) h (fun r166 h167 h => ?_)
                                      refine Wq.istore (ls2 := [some (pO 41 10 0), some (pO 10 8 0), some (pO 20 9 0), some (pO 40 10 0), some (pI x4), some (pI r164), some (pI r166), none, none]) dL_law_1021 (by decide) rfl ?_
                                      refine Wq.aload_n (t := 20) (r := 9) (j := 0) dL_law_1023 rfl ?_
                                      refine Wq.callVI (As := []) dL_law_1024 fX5_thrown ml_L_90 rfl (by decide) rfl (Nat.le_of_ble_eq_true rfl) (Nat.le_of_ble_eq_true rfl) (suX5_thrown trivial) (fun x171 m9 e9 => ?_)
                                      obtain ⟨rfl, rfl⟩ := e9
                                      refine Wq.iload (x := r164) dL_law_1027 rfl ?_
                                      refine Wq.icmpeq (tgt := 1034) dL_law_1029 (by decide) (fun q168 => ?_) (fun q168 => ?_)
                                      · replace h := h.1 q168
                                        refine Wq.iload (x := r164) dL_law_1034 rfl ?_
                                        refine Wq.ifne (tgt := 1051) dL_law_1036 (by decide) (fun q169 => ?_) (fun q169 => ?_)
                                        · replace h := h.1 q169
                                          refine Wq.goto (tgt := 1437) dL_law_1051 (by decide) ?_
                                          refine Wq.iinc (x := x4) (ls2 := [some (pO 41 10 0), some (pO 10 8 0), some (pO 20 9 0), some (pO 40 10 0), some (pI (x4 + 4)), some (pI r164), some (pI r166), none, none]) dL_law_1437 rfl (by decide) rfl ?_
                                          refine Wq.goto (tgt := 23) dL_law_1440 (by decide) ?_
                                          refine Wq.few (ls' := [some (pO 41 10 0), some (pO 10 8 0), some (pO 20 9 0), some (pO 40 10 0), some (pI (x4 + 4)), none, none, none, none]) ⟨rfl, ⟨rfl, ⟨rfl, ⟨rfl, ⟨rfl, trivial⟩⟩⟩⟩⟩ ?_
                                          exact h
                                        · replace h := h.2 q169
                                          refine Wq.aload_n (t := 40) (r := 10) (j := 0) dL_law_1039 rfl ?_
                                          refine Wq.iconst (v := 0) dL_law_1040 (by decide) ?_
                                          refine Wq.lald dL_law_1041 ?_
                                          refine Wq.iload (x := r166) dL_law_1042 rfl ?_
                                          refine Wq.i2l dL_law_1044 ?_
                                          refine Wq.lcmp dL_law_1045 ?_
                                          refine Wq.ifeq (tgt := 1051) dL_law_1046 (by decide) (fun q170 => ?_) (fun q170 => ?_)
                                          · replace h := h.1 q170
                                            refine Wq.goto (tgt := 1437) dL_law_1051 (by decide) ?_
                                            refine Wq.iinc (x := x4) (ls2 := [some (pO 41 10 0), some (pO 10 8 0), some (pO 20 9 0), some (pO 40 10 0), some (pI (x4 + 4)), some (pI r164), some (pI r166), none, none]) dL_law_1437 rfl (by decide) rfl ?_
                                            refine Wq.goto (tgt := 23) dL_law_1440 (by decide) ?_
                                            refine Wq.few (ls' := [some (pO 41 10 0), some (pO 10 8 0), some (pO 20 9 0), some (pO 40 10 0), some (pI (x4 + 4)), none, none, none, none]) ⟨rfl, ⟨rfl, ⟨rfl, ⟨rfl, ⟨rfl, trivial⟩⟩⟩⟩⟩ ?_
                                            exact h
                                          · replace h := h.2 q170
                                            refine Wq.iconst (v := 0) dL_law_1049 (by decide) ?_
                                            exact Wq.iret dL_law_1050 (⟨_, rfl, by decide⟩) h
                                      · replace h := h.2 q168
                                        refine Wq.iconst (v := 0) dL_law_1032 (by decide) ?_
                                        exact Wq.iret dL_law_1033 (⟨_, rfl, by decide⟩) h
                                    · replace h := h.2 q163
                                      by_cases q172 : ((gx g (ix x4)) &&& 31) = 17
                                      · replace h := h.1 q172
                                        refine Wq.tableIn (tgt := 1054) dL_law_39 (by rw [q172]; decide) (by rw [q172]; decide) (by rw [q172]; rfl) (by decide) ?_
                                        refine Wq.aload_n (t := 10) (r := 8) (j := 0) dL_law_1054 rfl ?_
                                        refine Wq.aload_n (t := 41) (r := 10) (j := 0) dL_law_1055 rfl ?_
                                        refine Wq.iload (x := x4) dL_law_1056 rfl ?_
                                        refine Wq.iconst (v := 1) dL_law_1058 (by decide) ?_
                                        refine Wq.iadd dL_law_1059 ?_
                                        refine Wq.ialdS dL_law_1060 h.1 ?_
                                        replace h := h.2
                                        refine Wq.aload_n (t := 40) (r := 10) (j := 0) dL_law_1061 rfl ?_
                                        refine Wq.callH (As := [pO 10 8 0, pI (gx g (ix (x4 + 1))), pO 40 10 0]) dL_law_1062 fL_setting ml_L_147 rfl (Nat.le_of_ble_eq_true rfl) (Nat.le_of_ble_eq_true rfl) h (fun r173 h174 h => ?_)
                                        refine Wq.istore (ls2 := [some (pO 41 10 0), some (pO 10 8 0), some (pO 20 9 0), some (pO 40 10 0), some (pI x4), some (pI r173), none, none, none]) dL_law_1065 (by decide) rfl ?_
                                        refine Wq.aload_n (t := 20) (r := 9) (j := 0) dL_law_1067 rfl ?_
                                        refine Wq.aload_n (t := 41) (r := 10) (j := 0) dL_law_1068 rfl ?_
                                        refine Wq.iload (x := x4) dL_law_1069 rfl ?_
                                        refine Wq.iconst (v := 1) dL_law_1071 (by decide) ?_
                                        refine Wq.iadd dL_law_1072 ?_
                                        refine Wq.ialdS dL_law_1073 h.1 ?_
                                        replace h := h.2
                                        refine Wq.callVI (As := [pI (gx g (ix (x4 + 1)))]) dL_law_1074 fX5_setting ml_L_149 rfl (by decide) rfl (Nat.le_of_ble_eq_true rfl) (Nat.le_of_ble_eq_true rfl) h (fun r175 h176 h => ?_)
                                        refine Wq.istore (ls2 := [some (pO 41 10 0), some (pO 10 8 0), some (pO 20 9 0), some (pO 40 10 0), some (pI x4), some (pI r173), some (pI r175), none, none]) dL_law_1077 (by decide) rfl ?_
                                        refine Wq.aload_n (t := 20) (r := 9) (j := 0) dL_law_1079 rfl ?_
                                        refine Wq.callVI (As := []) dL_law_1080 fX5_thrown ml_L_90 rfl (by decide) rfl (Nat.le_of_ble_eq_true rfl) (Nat.le_of_ble_eq_true rfl) (suX5_thrown trivial) (fun x180 m9 e9 => ?_)
                                        obtain ⟨rfl, rfl⟩ := e9
                                        refine Wq.iload (x := r173) dL_law_1083 rfl ?_
                                        refine Wq.icmpeq (tgt := 1090) dL_law_1085 (by decide) (fun q177 => ?_) (fun q177 => ?_)
                                        · replace h := h.1 q177
                                          refine Wq.iload (x := r173) dL_law_1090 rfl ?_
                                          refine Wq.ifne (tgt := 1107) dL_law_1092 (by decide) (fun q178 => ?_) (fun q178 => ?_)
                                          · replace h := h.1 q178
                                            refine Wq.goto (tgt := 1437) dL_law_1107 (by decide) ?_
                                            refine Wq.iinc (x := x4) (ls2 := [some (pO 41 10 0), some (pO 10 8 0), some (pO 20 9 0), some (pO 40 10 0), some (pI (x4 + 4)), some (pI r173), some (pI r175), none, none]) dL_law_1437 rfl (by decide) rfl ?_
                                            refine Wq.goto (tgt := 23) dL_law_1440 (by decide) ?_
                                            refine Wq.few (ls' := [some (pO 41 10 0), some (pO 10 8 0), some (pO 20 9 0), some (pO 40 10 0), some (pI (x4 + 4)), none, none, none, none]) ⟨rfl, ⟨rfl, ⟨rfl, ⟨rfl, ⟨rfl, trivial⟩⟩⟩⟩⟩ ?_
                                            exact h
                                          · replace h := h.2 q178
                                            refine Wq.aload_n (t := 40) (r := 10) (j := 0) dL_law_1095 rfl ?_
                                            refine Wq.iconst (v := 0) dL_law_1096 (by decide) ?_
                                            refine Wq.lald dL_law_1097 ?_
                                            refine Wq.iload (x := r175) dL_law_1098 rfl ?_
                                            refine Wq.i2l dL_law_1100 ?_
                                            refine Wq.lcmp dL_law_1101 ?_
                                            refine Wq.ifeq (tgt := 1107) dL_law_1102 (by decide) (fun q179 => ?_) (fun q179 => ?_)
                                            · replace h := h.1 q179
                                              refine Wq.goto (tgt := 1437) dL_law_1107 (by decide) ?_
                                              refine Wq.iinc (x := x4) (ls2 := [some (pO 41 10 0), some (pO 10 8 0), some (pO 20 9 0), some (pO 40 10 0), some (pI (x4 + 4)), some (pI r173), some (pI r175), none, none]) dL_law_1437 rfl (by decide) rfl ?_
                                              refine Wq.goto (tgt := 23) dL_law_1440 (by decide) ?_
                                              refine Wq.few (ls' := [some (pO 41 10 0), some (pO 10 8 0), some (pO 20 9 0), some (pO 40 10 0), some (pI (x4 + 4)), none, none, none, none]) ⟨rfl, ⟨rfl, ⟨rfl, ⟨rfl, ⟨rfl, trivial⟩⟩⟩⟩⟩ ?_
                                              exact h
                                            · replace h := h.2 q179
                                              refine Wq.iconst (v := 0) dL_law_1105 (by decide) ?_
                                              exact Wq.iret dL_law_1106 (⟨_, rfl, by decide⟩) h
                                        · replace h := h.2 q177
                                          refine Wq.iconst (v := 0) dL_law_1088 (by decide) ?_
                                          exact Wq.iret dL_law_1089 (⟨_, rfl, by decide⟩) h
                                      · replace h := h.2 q172
                                        by_cases q181 : ((gx g (ix x4)) &&& 31) = 18
                                        · replace h := h.1 q181
                                          refine Wq.tableIn (tgt := 1110) dL_law_39 (by rw [q181]; decide) (by rw [q181]; decide) (by rw [q181]; rfl) (by decide) ?_
                                          refine Wq.aload_n (t := 10) (r := 8) (j := 0) dL_law_1110 rfl ?_
                                          refine Wq.aload_n (t := 41) (r := 10) (j := 0) dL_law_1111 rfl ?_
                                          refine Wq.iload (x := x4) dL_law_1112 rfl ?_
                                          refine Wq.iconst (v := 1) dL_law_1114 (by decide) ?_
                                          refine Wq.iadd dL_law_1115 ?_
                                          refine Wq.ialdS dL_law_1116 h.1 ?_
                                          replace h := h.2
                                          refine Wq.aload_n (t := 41) (r := 10) (j := 0) dL_law_1117 rfl ?_
                                          refine Wq.iload (x := x4) dL_law_1118 rfl ?_
                                          refine Wq.iconst (v := 2) dL_law_1120 (by decide) ?_
                                          refine Wq.iadd dL_law_1121 ?_
                                          refine Wq.ialdS dL_law_1122 h.1 ?_
                                          replace h := h.2
                                          refine Wq.aload_n (t := 40) (r := 10) (j := 0) dL_law_1123 rfl ?_
                                          refine Wq.callH (As := [pO 10 8 0, pI (gx g (ix (x4 + 1))), pI (gx g (ix (x4 + 2))), pO 40 10 0]) dL_law_1124 fL_earliest ml_L_150 rfl (Nat.le_of_ble_eq_true rfl) (Nat.le_of_ble_eq_true rfl) h (fun r182 h183 h => ?_)
                                          refine Wq.istore (ls2 := [some (pO 41 10 0), some (pO 10 8 0), some (pO 20 9 0), some (pO 40 10 0), some (pI x4), some (pI r182), none, none, none]) dL_law_1127 (by decide) rfl ?_
                                          refine Wq.aload_n (t := 20) (r := 9) (j := 0) dL_law_1129 rfl ?_
                                          refine Wq.aload_n (t := 41) (r := 10) (j := 0) dL_law_1130 rfl ?_
                                          refine Wq.iload (x := x4) dL_law_1131 rfl ?_
                                          refine Wq.iconst (v := 1) dL_law_1133 (by decide) ?_
                                          refine Wq.iadd dL_law_1134 ?_
                                          refine Wq.ialdS dL_law_1135 h.1 ?_
                                          replace h := h.2
                                          refine Wq.aload_n (t := 41) (r := 10) (j := 0) dL_law_1136 rfl ?_
                                          refine Wq.iload (x := x4) dL_law_1137 rfl ?_
                                          refine Wq.iconst (v := 2) dL_law_1139 (by decide) ?_
                                          refine Wq.iadd dL_law_1140 ?_
                                          refine Wq.ialdS dL_law_1141 h.1 ?_
                                          replace h := h.2
                                          refine Wq.callVI (As := [pI (gx g (ix (x4 + 1))), pI (gx g (ix (x4 + 2)))]) dL_law_1142 fX5_earliest ml_L_152 rfl (by decide) rfl (Nat.le_of_ble_eq_true rfl) (Nat.le_of_ble_eq_true rfl) h (fun r184 h185 h => ?_)
                                          refine Wq.istore (ls2 := [some (pO 41 10 0), some (pO 10 8 0), some (pO 20 9 0), some (pO 40 10 0), some (pI x4), some (pI r182), some (pI r184), none, none]) dL_law_1145 (by decide) rfl ?_
                                          refine Wq.aload_n (t := 20) (r := 9) (j := 0) dL_law_1147 rfl ?_
                                          refine Wq.callVI (As := []) dL_law_1148 fX5_thrown ml_L_90 rfl (by decide) rfl (Nat.le_of_ble_eq_true rfl) (Nat.le_of_ble_eq_true rfl) (suX5_thrown trivial) (fun x189 m9 e9 => ?_)
                                          obtain ⟨rfl, rfl⟩ := e9
                                          refine Wq.iload (x := r182) dL_law_1151 rfl ?_
                                          refine Wq.icmpeq (tgt := 1158) dL_law_1153 (by decide) (fun q186 => ?_) (fun q186 => ?_)
                                          · replace h := h.1 q186
                                            refine Wq.iload (x := r182) dL_law_1158 rfl ?_
                                            refine Wq.ifne (tgt := 1175) dL_law_1160 (by decide) (fun q187 => ?_) (fun q187 => ?_)
                                            · replace h := h.1 q187
                                              refine Wq.goto (tgt := 1437) dL_law_1175 (by decide) ?_
                                              refine Wq.iinc (x := x4) (ls2 := [some (pO 41 10 0), some (pO 10 8 0), some (pO 20 9 0), some (pO 40 10 0), some (pI (x4 + 4)), some (pI r182), some (pI r184), none, none]) dL_law_1437 rfl (by decide) rfl ?_
                                              refine Wq.goto (tgt := 23) dL_law_1440 (by decide) ?_
                                              refine Wq.few (ls' := [some (pO 41 10 0), some (pO 10 8 0), some (pO 20 9 0), some (pO 40 10 0), some (pI (x4 + 4)), none, none, none, none]) ⟨rfl, ⟨rfl, ⟨rfl, ⟨rfl, ⟨rfl, trivial⟩⟩⟩⟩⟩ ?_
                                              exact h
                                            · replace h := h.2 q187
                                              refine Wq.aload_n (t := 40) (r := 10) (j := 0) dL_law_1163 rfl ?_
                                              refine Wq.iconst (v := 0) dL_law_1164 (by decide) ?_
                                              refine Wq.lald dL_law_1165 ?_
                                              refine Wq.iload (x := r184) dL_law_1166 rfl ?_
                                              refine Wq.i2l dL_law_1168 ?_
                                              refine Wq.lcmp dL_law_1169 ?_
                                              refine Wq.ifeq (tgt := 1175) dL_law_1170 (by decide) (fun q188 => ?_) (fun q188 => ?_)
                                              · replace h := h.1 q188
                                                refine Wq.goto (tgt := 1437) dL_law_1175 (by decide) ?_
                                                refine Wq.iinc (x := x4) (ls2 := [some (pO 41 10 0), some (pO 10 8 0), some (pO 20 9 0), some (pO 40 10 0), some (pI (x4 + 4)), some (pI r182), some (pI r184), none, none]) dL_law_1437 rfl (by decide) rfl ?_
                                                refine Wq.goto (tgt := 23) dL_law_1440 (by decide) ?_
                                                refine Wq.few (ls' := [some (pO 41 10 0), some (pO 10 8 0), some (pO 20 9 0), some (pO 40 10 0), some (pI (x4 + 4)), none, none, none, none]) ⟨rfl, ⟨rfl, ⟨rfl, ⟨rfl, ⟨rfl, trivial⟩⟩⟩⟩⟩ ?_
                                                exact h
                                              · replace h := h.2 q188
                                                refine Wq.iconst (v := 0) dL_law_1173 (by decide) ?_
                                                exact Wq.iret dL_law_1174 (⟨_, rfl, by decide⟩) h
                                          · replace h := h.2 q186
                                            refine Wq.iconst (v := 0) dL_law_1156 (by decide) ?_
                                            exact Wq.iret dL_law_1157 (⟨_, rfl, by decide⟩) h
                                        · replace h := h.2 q181
                                          by_cases q190 : ((gx g (ix x4)) &&& 31) = 19
                                          · replace h := h.1 q190
                                            refine Wq.tableIn (tgt := 1178) dL_law_39 (by rw [q190]; decide) (by rw [q190]; decide) (by rw [q190]; rfl) (by decide) ?_
                                            refine Wq.aload_n (t := 10) (r := 8) (j := 0) dL_law_1178 rfl ?_
                                            refine Wq.aload_n (t := 41) (r := 10) (j := 0) dL_law_1179 rfl ?_
                                            refine Wq.iload (x := x4) dL_law_1180 rfl ?_
                                            refine Wq.iconst (v := 1) dL_law_1182 (by decide) ?_
                                            refine Wq.iadd dL_law_1183 ?_
                                            refine Wq.ialdS dL_law_1184 h.1 ?_
                                            replace h := h.2
                                            refine Wq.aload_n (t := 41) (r := 10) (j := 0) dL_law_1185 rfl ?_
                                            refine Wq.iload (x := x4) dL_law_1186 rfl ?_
                                            refine Wq.iconst (v := 2) dL_law_1188 (by decide) ?_
                                            refine Wq.iadd dL_law_1189 ?_
                                            refine Wq.ialdS dL_law_1190 h.1 ?_
                                            replace h := h.2
                                            refine Wq.aload_n (t := 41) (r := 10) (j := 0) dL_law_1191 rfl ?_
                                            refine Wq.iload (x := x4) dL_law_1192 rfl ?_
                                            refine Wq.iconst (v := 3) dL_law_1194 (by decide) ?_
                                            refine Wq.iadd dL_law_1195 ?_
                                            refine Wq.ialdS dL_law_1196 h.1 ?_
                                            replace h := h.2
                                            refine Wq.aload_n (t := 40) (r := 10) (j := 0) dL_law_1197 rfl ?_
                                            refine Wq.callH (As := [pO 10 8 0, pI (gx g (ix (x4 + 1))), pI (gx g (ix (x4 + 2))), pI (gx g (ix (x4 + 3))), pO 40 10 0]) dL_law_1198 fL_ifCancelled ml_L_153 rfl (Nat.le_of_ble_eq_true rfl) (Nat.le_of_ble_eq_true rfl) h (fun r191 h192 h => ?_)
                                            refine Wq.istore (ls2 := [some (pO 41 10 0), some (pO 10 8 0), some (pO 20 9 0), some (pO 40 10 0), some (pI x4), some (pI r191), none, none, none]) dL_law_1201 (by decide) rfl ?_
                                            refine Wq.aload_n (t := 20) (r := 9) (j := 0) dL_law_1203 rfl ?_
                                            refine Wq.aload_n (t := 41) (r := 10) (j := 0) dL_law_1204 rfl ?_
                                            refine Wq.iload (x := x4) dL_law_1205 rfl ?_
                                            refine Wq.iconst (v := 1) dL_law_1207 (by decide) ?_
                                            refine Wq.iadd dL_law_1208 ?_
                                            refine Wq.ialdS dL_law_1209 h.1 ?_
                                            replace h := h.2
                                            refine Wq.aload_n (t := 41) (r := 10) (j := 0) dL_law_1210 rfl ?_
                                            refine Wq.iload (x := x4) dL_law_1211 rfl ?_
                                            refine Wq.iconst (v := 2) dL_law_1213 (by decide) ?_
                                            refine Wq.iadd dL_law_1214 ?_
                                            refine Wq.ialdS dL_law_1215 h.1 ?_
                                            replace h := h.2
                                            refine Wq.aload_n (t := 41) (r := 10) (j := 0) dL_law_1216 rfl ?_
                                            refine Wq.iload (x := x4) dL_law_1217 rfl ?_
                                            refine Wq.iconst (v := 3) dL_law_1219 (by decide) ?_
                                            refine Wq.iadd dL_law_1220 ?_
                                            refine Wq.ialdS dL_law_1221 h.1 ?_
                                            replace h := h.2
                                            refine Wq.callVI (As := [pI (gx g (ix (x4 + 1))), pI (gx g (ix (x4 + 2))), pI (gx g (ix (x4 + 3)))]) dL_law_1222 fX5_ifCancelled ml_L_155 rfl (by decide) rfl (Nat.le_of_ble_eq_true rfl) (Nat.le_of_ble_eq_true rfl) h (fun r193 h194 h => ?_)
                                            refine Wq.istore (ls2 := [some (pO 41 10 0), some (pO 10 8 0), some (pO 20 9 0), some (pO 40 10 0), some (pI x4), some (pI r191), some (pI r193), none, none]) dL_law_1225 (by decide) rfl ?_
                                            refine Wq.aload_n (t := 20) (r := 9) (j := 0) dL_law_1227 rfl ?_
                                            refine Wq.callVI (As := []) dL_law_1228 fX5_thrown ml_L_90 rfl (by decide) rfl (Nat.le_of_ble_eq_true rfl) (Nat.le_of_ble_eq_true rfl) (suX5_thrown trivial) (fun x198 m9 e9 => ?_)
                                            obtain ⟨rfl, rfl⟩ := e9
                                            refine Wq.iload (x := r191) dL_law_1231 rfl ?_
                                            refine Wq.icmpeq (tgt := 1238) dL_law_1233 (by decide) (fun q195 => ?_) (fun q195 => ?_)
                                            · replace h := h.1 q195
                                              refine Wq.iload (x := r191) dL_law_1238 rfl ?_
                                              refine Wq.ifne (tgt := 1255) dL_law_1240 (by decide) (fun q196 => ?_) (fun q196 => ?_)
                                              · replace h := h.1 q196
                                                refine Wq.goto (tgt := 1437) dL_law_1255 (by decide) ?_
                                                refine Wq.iinc (x := x4) (ls2 := [some (pO 41 10 0), some (pO 10 8 0), some (pO 20 9 0), some (pO 40 10 0), some (pI (x4 + 4)), some (pI r191), some (pI r193), none, none]) dL_law_1437 rfl (by decide) rfl ?_
                                                refine Wq.goto (tgt := 23) dL_law_1440 (by decide) ?_
                                                refine Wq.few (ls' := [some (pO 41 10 0), some (pO 10 8 0), some (pO 20 9 0), some (pO 40 10 0), some (pI (x4 + 4)), none, none, none, none]) ⟨rfl, ⟨rfl, ⟨rfl, ⟨rfl, ⟨rfl, trivial⟩⟩⟩⟩⟩ ?_
                                                exact h
                                              · replace h := h.2 q196
                                                refine Wq.aload_n (t := 40) (r := 10) (j := 0) dL_law_1243 rfl ?_
                                                refine Wq.iconst (v := 0) dL_law_1244 (by decide) ?_
                                                refine Wq.lald dL_law_1245 ?_
                                                refine Wq.iload (x := r193) dL_law_1246 rfl ?_
                                                refine Wq.i2l dL_law_1248 ?_
                                                refine Wq.lcmp dL_law_1249 ?_
                                                refine Wq.ifeq (tgt := 1255) dL_law_1250 (by decide) (fun q197 => ?_) (fun q197 => ?_)
                                                · replace h := h.1 q197
                                                  refine Wq.goto (tgt := 1437) dL_law_1255 (by decide) ?_
                                                  refine Wq.iinc (x := x4) (ls2 := [some (pO 41 10 0), some (pO 10 8 0), some (pO 20 9 0), some (pO 40 10 0), some (pI (x4 + 4)), some (pI r191), some (pI r193), none, none]) dL_law_1437 rfl (by decide) rfl ?_
                                                  refine Wq.goto (tgt := 23) dL_law_1440 (by decide) ?_
                                                  refine Wq.few (ls' := [some (pO 41 10 0), some (pO 10 8 0), some (pO 20 9 0), some (pO 40 10 0), some (pI (x4 + 4)), none, none, none, none]) ⟨rfl, ⟨rfl, ⟨rfl, ⟨rfl, ⟨rfl, trivial⟩⟩⟩⟩⟩ ?_
                                                  exact h
                                                · replace h := h.2 q197
                                                  refine Wq.iconst (v := 0) dL_law_1253 (by decide) ?_
                                                  exact Wq.iret dL_law_1254 (⟨_, rfl, by decide⟩) h
                                            · replace h := h.2 q195
                                              refine Wq.iconst (v := 0) dL_law_1236 (by decide) ?_
                                              exact Wq.iret dL_law_1237 (⟨_, rfl, by decide⟩) h
                                          · replace h := h.2 q190
                                            by_cases q199 : ((gx g (ix x4)) &&& 31) = 20
                                            · replace h := h.1 q199
                                              refine Wq.tableIn (tgt := 1258) dL_law_39 (by rw [q199]; decide) (by rw [q199]; decide) (by rw [q199]; rfl) (by decide) ?_
                                              refine Wq.aload_n (t := 10) (r := 8) (j := 0) dL_law_1258 rfl ?_
                                              refine Wq.aload_n (t := 41) (r := 10) (j := 0) dL_law_1259 rfl ?_
                                              refine Wq.iload (x := x4) dL_law_1260 rfl ?_
                                              refine Wq.iconst (v := 1) dL_law_1262 (by decide) ?_
                                              refine Wq.iadd dL_law_1263 ?_
                                              refine Wq.ialdS dL_law_1264 h.1 ?_
                                              replace h := h.2
                                              refine Wq.aload_n (t := 41) (r := 10) (j := 0) dL_law_1265 rfl ?_
                                              refine Wq.iload (x := x4) dL_law_1266 rfl ?_
                                              refine Wq.iconst (v := 2) dL_law_1268 (by decide) ?_
                                              refine Wq.iadd dL_law_1269 ?_
                                              refine Wq.ialdS dL_law_1270 h.1 ?_
                                              replace h := h.2
                                              refine Wq.aload_n (t := 40) (r := 10) (j := 0) dL_law_1271 rfl ?_
                                              refine Wq.callH (As := [pO 10 8 0, pI (gx g (ix (x4 + 1))), pI (gx g (ix (x4 + 2))), pO 40 10 0]) dL_law_1272 fL_ifTested ml_L_156 rfl (Nat.le_of_ble_eq_true rfl) (Nat.le_of_ble_eq_true rfl) h (fun r200 h201 h => ?_)
                                              refine Wq.istore (ls2 := [some (pO 41 10 0), some (pO 10 8 0), some (pO 20 9 0), some (pO 40 10 0), some (pI x4), some (pI r200), none, none, none]) dL_law_1275 (by decide) rfl ?_
                                              refine Wq.aload_n (t := 20) (r := 9) (j := 0) dL_law_1277 rfl ?_
                                              refine Wq.aload_n (t := 41) (r := 10) (j := 0) dL_law_1278 rfl ?_
                                              refine Wq.iload (x := x4) dL_law_1279 rfl ?_
                                              refine Wq.iconst (v := 1) dL_law_1281 (by decide) ?_
                                              refine Wq.iadd dL_law_1282 ?_
                                              refine Wq.ialdS dL_law_1283 h.1 ?_
                                              replace h := h.2
                                              refine Wq.aload_n (t := 41) (r := 10) (j := 0) dL_law_1284 rfl ?_
                                              refine Wq.iload (x := x4) dL_law_1285 rfl ?_
                                              refine Wq.iconst (v := 2) dL_law_1287 (by decide) ?_
                                              refine Wq.iadd dL_law_1288 ?_
                                              refine Wq.ialdS dL_law_1289 h.1 ?_
                                              replace h := h.2
                                              refine Wq.callVI (As := [pI (gx g (ix (x4 + 1))), pI (gx g (ix (x4 + 2)))]) dL_law_1290 fX5_ifTested ml_L_158 rfl (by decide) rfl (Nat.le_of_ble_eq_true rfl) (Nat.le_of_ble_eq_true rfl) h (fun r202 h203 h => ?_)
                                              refine Wq.istore (ls2 := [some (pO 41 10 0), some (pO 10 8 0), some (pO 20 9 0), some (pO 40 10 0), some (pI x4), some (pI r200), some (pI r202), none, none]) dL_law_1293 (by decide) rfl ?_
                                              refine Wq.aload_n (t := 20) (r := 9) (j := 0) dL_law_1295 rfl ?_
                                              refine Wq.callVI (As := []) dL_law_1296 fX5_thrown ml_L_90 rfl (by decide) rfl (Nat.le_of_ble_eq_true rfl) (Nat.le_of_ble_eq_true rfl) (suX5_thrown trivial) (fun x207 m9 e9 => ?_)
                                              obtain ⟨rfl, rfl⟩ := e9
                                              refine Wq.iload (x := r200) dL_law_1299 rfl ?_
                                              refine Wq.icmpeq (tgt := 1306) dL_law_1301 (by decide) (fun q204 => ?_) (fun q204 => ?_)
                                              · replace h := h.1 q204
                                                refine Wq.iload (x := r200) dL_law_1306 rfl ?_
                                                refine Wq.ifne (tgt := 1323) dL_law_1308 (by decide) (fun q205 => ?_) (fun q205 => ?_)
                                                · replace h := h.1 q205
                                                  refine Wq.goto (tgt := 1437) dL_law_1323 (by decide) ?_
                                                  refine Wq.iinc (x := x4) (ls2 := [some (pO 41 10 0), some (pO 10 8 0), some (pO 20 9 0), some (pO 40 10 0), some (pI (x4 + 4)), some (pI r200), some (pI r202), none, none]) dL_law_1437 rfl (by decide) rfl ?_
                                                  refine Wq.goto (tgt := 23) dL_law_1440 (by decide) ?_
                                                  refine Wq.few (ls' := [some (pO 41 10 0), some (pO 10 8 0), some (pO 20 9 0), some (pO 40 10 0), some (pI (x4 + 4)), none, none, none, none]) ⟨rfl, ⟨rfl, ⟨rfl, ⟨rfl, ⟨rfl, trivial⟩⟩⟩⟩⟩ ?_
                                                  exact h
                                                · replace h := h.2 q205
                                                  refine Wq.aload_n (t := 40) (r := 10) (j := 0) dL_law_1311 rfl ?_
                                                  refine Wq.iconst (v := 0) dL_law_1312 (by decide) ?_
                                                  refine Wq.lald dL_law_1313 ?_
                                                  refine Wq.iload (x := r202) dL_law_1314 rfl ?_
                                                  refine Wq.i2l dL_law_1316 ?_
                                                  refine Wq.lcmp dL_law_1317 ?_
                                                  refine Wq.ifeq (tgt := 1323) dL_law_1318 (by decide) (fun q206 => ?_) (fun q206 => ?_)
                                                  · replace h := h.1 q206
                                                    refine Wq.goto (tgt := 1437) dL_law_1323 (by decide) ?_
                                                    refine Wq.iinc (x := x4) (ls2 := [some (pO 41 10 0), some (pO 10 8 0), some (pO 20 9 0), some (pO 40 10 0), some (pI (x4 + 4)), some (pI r200), some (pI r202), none, none]) dL_law_1437 rfl (by decide) rfl ?_
                                                    refine Wq.goto (tgt := 23) dL_law_1440 (by decide) ?_
                                                    refine Wq.few (ls' := [some (pO 41 10 0), some (pO 10 8 0), some (pO 20 9 0), some (pO 40 10 0), some (pI (x4 + 4)), none, none, none, none]) ⟨rfl, ⟨rfl, ⟨rfl, ⟨rfl, ⟨rfl, trivial⟩⟩⟩⟩⟩ ?_
                                                    exact h
                                                  · replace h := h.2 q206
                                                    refine Wq.iconst (v := 0) dL_law_1321 (by decide) ?_
                                                    exact Wq.iret dL_law_1322 (⟨_, rfl, by decide⟩) h
                                              · replace h := h.2 q204
                                                refine Wq.iconst (v := 0) dL_law_1304 (by decide) ?_
                                                exact Wq.iret dL_law_1305 (⟨_, rfl, by decide⟩) h
                                            · replace h := h.2 q199
                                              by_cases q208 : ((gx g (ix x4)) &&& 31) = 21
                                              · replace h := h.1 q208
                                                refine Wq.tableIn (tgt := 1326) dL_law_39 (by rw [q208]; decide) (by rw [q208]; decide) (by rw [q208]; rfl) (by decide) ?_
                                                refine Wq.aload_n (t := 10) (r := 8) (j := 0) dL_law_1326 rfl ?_
                                                refine Wq.aload_n (t := 41) (r := 10) (j := 0) dL_law_1327 rfl ?_
                                                refine Wq.iload (x := x4) dL_law_1328 rfl ?_
                                                refine Wq.iconst (v := 1) dL_law_1330 (by decide) ?_
                                                refine Wq.iadd dL_law_1331 ?_
                                                refine Wq.ialdS dL_law_1332 h.1 ?_
                                                replace h := h.2
                                                refine Wq.aload_n (t := 40) (r := 10) (j := 0) dL_law_1333 rfl ?_
                                                refine Wq.callH (As := [pO 10 8 0, pI (gx g (ix (x4 + 1))), pO 40 10 0]) dL_law_1334 fL_couldHave ml_L_159 rfl (Nat.le_of_ble_eq_true rfl) (Nat.le_of_ble_eq_true rfl) h (fun r209 h210 h => ?_)
                                                refine Wq.istore (ls2 := [some (pO 41 10 0), some (pO 10 8 0), some (pO 20 9 0), some (pO 40 10 0), some (pI x4), some (pI r209), none, none, none]) dL_law_1337 (by decide) rfl ?_
                                                refine Wq.aload_n (t := 20) (r := 9) (j := 0) dL_law_1339 rfl ?_
                                                refine Wq.aload_n (t := 41) (r := 10) (j := 0) dL_law_1340 rfl ?_
                                                refine Wq.iload (x := x4) dL_law_1341 rfl ?_
                                                refine Wq.iconst (v := 1) dL_law_1343 (by decide) ?_
                                                refine Wq.iadd dL_law_1344 ?_
                                                refine Wq.ialdS dL_law_1345 h.1 ?_
                                                replace h := h.2
                                                refine Wq.callVI (As := [pI (gx g (ix (x4 + 1)))]) dL_law_1346 fX5_couldHave ml_L_161 rfl (by decide) rfl (Nat.le_of_ble_eq_true rfl) (Nat.le_of_ble_eq_true rfl) h (fun r211 h212 h => ?_)
                                                refine Wq.istore (ls2 := [some (pO 41 10 0), some (pO 10 8 0), some (pO 20 9 0), some (pO 40 10 0), some (pI x4), some (pI r209), some (pI r211), none, none]) dL_law_1349 (by decide) rfl ?_
                                                refine Wq.aload_n (t := 20) (r := 9) (j := 0) dL_law_1351 rfl ?_
                                                refine Wq.callVI (As := []) dL_law_1352 fX5_thrown ml_L_90 rfl (by decide) rfl (Nat.le_of_ble_eq_true rfl) (Nat.le_of_ble_eq_true rfl) (suX5_thrown trivial) (fun x216 m9 e9 => ?_)
                                                obtain ⟨rfl, rfl⟩ := e9
                                                refine Wq.iload (x := r209) dL_law_1355 rfl ?_
                                                refine Wq.icmpeq (tgt := 1362) dL_law_1357 (by decide) (fun q213 => ?_) (fun q213 => ?_)
                                                · replace h := h.1 q213
                                                  refine Wq.iload (x := r209) dL_law_1362 rfl ?_
                                                  refine Wq.ifne (tgt := 1379) dL_law_1364 (by decide) (fun q214 => ?_) (fun q214 => ?_)
                                                  · replace h := h.1 q214
                                                    refine Wq.goto (tgt := 1437) dL_law_1379 (by decide) ?_
                                                    refine Wq.iinc (x := x4) (ls2 := [some (pO 41 10 0), some (pO 10 8 0), some (pO 20 9 0), some (pO 40 10 0), some (pI (x4 + 4)), some (pI r209), some (pI r211), none, none]) dL_law_1437 rfl (by decide) rfl ?_
                                                    refine Wq.goto (tgt := 23) dL_law_1440 (by decide) ?_
                                                    refine Wq.few (ls' := [some (pO 41 10 0), some (pO 10 8 0), some (pO 20 9 0), some (pO 40 10 0), some (pI (x4 + 4)), none, none, none, none]) ⟨rfl, ⟨rfl, ⟨rfl, ⟨rfl, ⟨rfl, trivial⟩⟩⟩⟩⟩ ?_
                                                    exact h
                                                  · replace h := h.2 q214
                                                    refine Wq.aload_n (t := 40) (r := 10) (j := 0) dL_law_1367 rfl ?_
                                                    refine Wq.iconst (v := 0) dL_law_1368 (by decide) ?_
                                                    refine Wq.lald dL_law_1369 ?_
                                                    refine Wq.iload (x := r211) dL_law_1370 rfl ?_
                                                    refine Wq.i2l dL_law_1372 ?_
                                                    refine Wq.lcmp dL_law_1373 ?_
                                                    refine Wq.ifeq (tgt := 1379) dL_law_1374 (by decide) (fun q215 => ?_) (fun q215 => ?_)
                                                    · replace h := h.1 q215
                                                      refine Wq.goto (tgt := 1437) dL_law_1379 (by decide) ?_
                                                      refine Wq.iinc (x := x4) (ls2 := [some (pO 41 10 0), some (pO 10 8 0), some (pO 20 9 0), some (pO 40 10 0), some (pI (x4 + 4)), some (pI r209), some (pI r211), none, none]) dL_law_1437 rfl (by decide) rfl ?_
                                                      refine Wq.goto (tgt := 23) dL_law_1440 (by decide) ?_
                                                      refine Wq.few (ls' := [some (pO 41 10 0), some (pO 10 8 0), some (pO 20 9 0), some (pO 40 10 0), some (pI (x4 + 4)), none, none, none, none]) ⟨rfl, ⟨rfl, ⟨rfl, ⟨rfl, ⟨rfl, trivial⟩⟩⟩⟩⟩ ?_
                                                      exact h
                                                    · replace h := h.2 q215
                                                      refine Wq.iconst (v := 0) dL_law_1377 (by decide) ?_
                                                      exact Wq.iret dL_law_1378 (⟨_, rfl, by decide⟩) h
                                                · replace h := h.2 q213
                                                  refine Wq.iconst (v := 0) dL_law_1360 (by decide) ?_
                                                  exact Wq.iret dL_law_1361 (⟨_, rfl, by decide⟩) h
                                              · replace h := h.2 q208
                                                by_cases q217 : ((gx g (ix x4)) &&& 31) = 22
                                                · replace h := h.1 q217
                                                  refine Wq.tableIn (tgt := 1382) dL_law_39 (by rw [q217]; decide) (by rw [q217]; decide) (by rw [q217]; rfl) (by decide) ?_
                                                  refine Wq.aload_n (t := 10) (r := 8) (j := 0) dL_law_1382 rfl ?_
                                                  refine Wq.callVD (As := []) dL_law_1383 fX4_passedShare ml_L_162 rfl (by decide) rfl (Nat.le_of_ble_eq_true rfl) (Nat.le_of_ble_eq_true rfl) h (fun r218 m219 h => ?_)
                                                  refine Wq.dstore (ls2 := [some (pO 41 10 0), some (pO 10 8 0), some (pO 20 9 0), some (pO 40 10 0), some (pI x4), some (pD r218), none, none, none]) dL_law_1386 (by decide) rfl ?_
                                                  refine Wq.aload_n (t := 20) (r := 9) (j := 0) dL_law_1388 rfl ?_
                                                  refine Wq.callVD (As := []) dL_law_1389 fX5_passedShare ml_L_166 rfl (by decide) rfl (Nat.le_of_ble_eq_true rfl) (Nat.le_of_ble_eq_true rfl) h (fun r220 m221 h => ?_)
                                                  refine Wq.dstore (ls2 := [some (pO 41 10 0), some (pO 10 8 0), some (pO 20 9 0), some (pO 40 10 0), some (pI x4), some (pD r218), none, some (pD r220), none]) dL_law_1392 (by decide) rfl ?_
                                                  refine Wq.dload (x := r218) dL_law_1394 rfl ?_
                                                  refine Wq.dload (x := r220) dL_law_1396 rfl ?_
                                                  refine Wq.dcmp dL_law_1398 ?_
                                                  refine Wq.ifeq (tgt := 1420) dL_law_1399 (by decide) (fun q222 => ?_) (fun q222 => ?_)
                                                  · replace h := h.1 q222
                                                    refine Wq.goto (tgt := 1437) dL_law_1420 (by decide) ?_
                                                    refine Wq.iinc (x := x4) (ls2 := [some (pO 41 10 0), some (pO 10 8 0), some (pO 20 9 0), some (pO 40 10 0), some (pI (x4 + 4)), some (pD r218), none, some (pD r220), none]) dL_law_1437 rfl (by decide) rfl ?_
                                                    refine Wq.goto (tgt := 23) dL_law_1440 (by decide) ?_
                                                    refine Wq.few (ls' := [some (pO 41 10 0), some (pO 10 8 0), some (pO 20 9 0), some (pO 40 10 0), some (pI (x4 + 4)), none, none, none, none]) ⟨rfl, ⟨rfl, ⟨rfl, ⟨rfl, ⟨rfl, trivial⟩⟩⟩⟩⟩ ?_
                                                    exact h
                                                  · replace h := h.2 q222
                                                    refine Wq.dload (x := r218) dL_law_1402 rfl ?_
                                                    refine Wq.dload (x := r218) dL_law_1404 rfl ?_
                                                    refine Wq.dcmp dL_law_1406 ?_
                                                    refine Wq.ifeq (tgt := 1418) dL_law_1407 (by decide) (fun q223 => ?_) (fun q223 => ?_)
                                                    · replace h := h.1 q223
                                                      refine Wq.iconst (v := 0) dL_law_1418 (by decide) ?_
                                                      exact Wq.iret dL_law_1419 (⟨_, rfl, by decide⟩) h
                                                    · replace h := h.2 q223
                                                      refine Wq.dload (x := r220) dL_law_1410 rfl ?_
                                                      refine Wq.dload (x := r220) dL_law_1412 rfl ?_
                                                      refine Wq.dcmp dL_law_1414 ?_
                                                      refine Wq.ifne (tgt := 1420) dL_law_1415 (by decide) (fun q224 => ?_) (fun q224 => ?_)
                                                      · replace h := h.1 q224
                                                        refine Wq.goto (tgt := 1437) dL_law_1420 (by decide) ?_
                                                        refine Wq.iinc (x := x4) (ls2 := [some (pO 41 10 0), some (pO 10 8 0), some (pO 20 9 0), some (pO 40 10 0), some (pI (x4 + 4)), some (pD r218), none, some (pD r220), none]) dL_law_1437 rfl (by decide) rfl ?_
                                                        refine Wq.goto (tgt := 23) dL_law_1440 (by decide) ?_
                                                        refine Wq.few (ls' := [some (pO 41 10 0), some (pO 10 8 0), some (pO 20 9 0), some (pO 40 10 0), some (pI (x4 + 4)), none, none, none, none]) ⟨rfl, ⟨rfl, ⟨rfl, ⟨rfl, ⟨rfl, trivial⟩⟩⟩⟩⟩ ?_
                                                        exact h
                                                      · replace h := h.2 q224
                                                        refine Wq.iconst (v := 0) dL_law_1418 (by decide) ?_
                                                        exact Wq.iret dL_law_1419 (⟨_, rfl, by decide⟩) h
                                                · replace h := h.2 q217
                                                  by_cases q225 : ((gx g (ix x4)) &&& 31) = 23
                                                  · replace h := h.1 q225
                                                    refine Wq.tableIn (tgt := 1423) dL_law_39 (by rw [q225]; decide) (by rw [q225]; decide) (by rw [q225]; rfl) (by decide) ?_
                                                    refine Wq.aload_n (t := 10) (r := 8) (j := 0) dL_law_1423 rfl ?_
                                                    refine Wq.callVL (As := []) dL_law_1424 fX4_digest ml_L_167 rfl (by decide) rfl (Nat.le_of_ble_eq_true rfl) (Nat.le_of_ble_eq_true rfl) h (fun r226 m227 h => ?_)
                                                    refine Wq.aload_n (t := 20) (r := 9) (j := 0) dL_law_1427 rfl ?_
                                                    refine Wq.callVL (As := []) dL_law_1428 fX5_digest ml_L_171 rfl (by decide) rfl (Nat.le_of_ble_eq_true rfl) (Nat.le_of_ble_eq_true rfl) h (fun r228 m229 h => ?_)
                                                    refine Wq.lcmp dL_law_1431 ?_
                                                    refine Wq.ifeq (tgt := 1437) dL_law_1432 (by decide) (fun q230 => ?_) (fun q230 => ?_)
                                                    · replace h := h.1 q230
                                                      refine Wq.iinc (x := x4) (ls2 := [some (pO 41 10 0), some (pO 10 8 0), some (pO 20 9 0), some (pO 40 10 0), some (pI (x4 + 4)), none, none, none, none]) dL_law_1437 rfl (by decide) rfl ?_
                                                      refine Wq.goto (tgt := 23) dL_law_1440 (by decide) ?_
                                                      exact h
                                                    · replace h := h.2 q230
                                                      refine Wq.iconst (v := 0) dL_law_1435 (by decide) ?_
                                                      exact Wq.iret dL_law_1436 (⟨_, rfl, by decide⟩) h
                                                  · replace h := h.2 q225
                                                    refine Wq.tableOut (tgt := 1437) dL_law_39 (sw_out24 q2 q11 q20 q29 q38 q47 q79 q88 q97 q106 q112 q118 q127 q136 q145 q154 q163 q172 q181 q190 q199 q208 q217 q225) (by decide) ?_
                                                    refine Wq.iinc (x := x4) (ls2 := [some (pO 41 10 0), some (pO 10 8 0), some (pO 20 9 0), some (pO 40 10 0), some (pI (x4 + 4)), none, none, none, none]) dL_law_1437 rfl (by decide) rfl ?_
                                                    refine Wq.goto (tgt := 23) dL_law_1440 (by decide) ?_
                                                    exact h
