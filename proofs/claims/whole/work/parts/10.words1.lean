theorem wm_yX0_splitClasses : Cond.instanceMethod yX0_splitClasses ∈ zgw := List.mem_filter.mpr ⟨List.mem_of_getElem? (i := 777) (by decide +kernel), rfl⟩
theorem wc_yX0_splitClasses : Cond.code yX0_splitClasses cX0_splitClasses 5 (some (.int)) ∈ zgw := List.mem_filter.mpr ⟨List.mem_of_getElem? (i := 778) (by decide +kernel), rfl⟩
theorem w_679 : Cond.methodLink RX0 131 yX0_leadAlike ∈ zgw := List.mem_filter.mpr ⟨List.mem_of_getElem? (i := 779) (by decide +kernel), rfl⟩
theorem wm_yX0_leadAlike : Cond.instanceMethod yX0_leadAlike ∈ zgw := List.mem_filter.mpr ⟨List.mem_of_getElem? (i := 781) (by decide +kernel), rfl⟩
theorem wc_yX0_leadAlike : Cond.code yX0_leadAlike cX0_leadAlike 6 (some (.boolean)) ∈ zgw := List.mem_filter.mpr ⟨List.mem_of_getElem? (i := 782) (by decide +kernel), rfl⟩
theorem w_683 : Cond.methodLink RX0 141 yX0_classOf ∈ zgw := List.mem_filter.mpr ⟨List.mem_of_getElem? (i := 783) (by decide +kernel), rfl⟩
theorem wm_yX0_classOf : Cond.instanceMethod yX0_classOf ∈ zgw := List.mem_filter.mpr ⟨List.mem_of_getElem? (i := 785) (by decide +kernel), rfl⟩
theorem wc_yX0_classOf : Cond.code yX0_classOf cX0_classOf 2 (some (.int)) ∈ zgw := List.mem_filter.mpr ⟨List.mem_of_getElem? (i := 786) (by decide +kernel), rfl⟩
theorem w_687 : Cond.methodLink RX0 135 arraycopyName ∈ zgw := List.mem_filter.mpr ⟨List.mem_of_getElem? (i := 787) (by decide +kernel), rfl⟩
theorem w_688 : Cond.methodLink RX0 62 yX0_linkClasses ∈ zgw := List.mem_filter.mpr ⟨List.mem_of_getElem? (i := 788) (by decide +kernel), rfl⟩
theorem wm_yX0_linkClasses : Cond.instanceMethod yX0_linkClasses ∈ zgw := List.mem_filter.mpr ⟨List.mem_of_getElem? (i := 790) (by decide +kernel), rfl⟩
theorem wc_yX0_linkClasses : Cond.code yX0_linkClasses cX0_linkClasses 4 none ∈ zgw := List.mem_filter.mpr ⟨List.mem_of_getElem? (i := 791) (by decide +kernel), rfl⟩
theorem w_692 : Cond.methodLink RX0 145 yX1_clear ∈ zgw := List.mem_filter.mpr ⟨List.mem_of_getElem? (i := 792) (by decide +kernel), rfl⟩
theorem w_693 : Cond.methodLink RX0 148 yX1_put ∈ zgw := List.mem_filter.mpr ⟨List.mem_of_getElem? (i := 793) (by decide +kernel), rfl⟩
theorem w_694 : Cond.methodLink RX0 65 yX6_build ∈ zgw := List.mem_filter.mpr ⟨List.mem_of_getElem? (i := 794) (by decide +kernel), rfl⟩
theorem w_695 : Cond.methodLink RX0 69 yX0_findReset ∈ zgw := List.mem_filter.mpr ⟨List.mem_of_getElem? (i := 795) (by decide +kernel), rfl⟩
theorem wm_yX0_findReset : Cond.instanceMethod yX0_findReset ∈ zgw := List.mem_filter.mpr ⟨List.mem_of_getElem? (i := 797) (by decide +kernel), rfl⟩
theorem wc_yX0_findReset : Cond.code yX0_findReset cX0_findReset 2 none ∈ zgw := List.mem_filter.mpr ⟨List.mem_of_getElem? (i := 798) (by decide +kernel), rfl⟩
theorem w_699 : Cond.methodLink RX0 152 yX6_set ∈ zgw := List.mem_filter.mpr ⟨List.mem_of_getElem? (i := 799) (by decide +kernel), rfl⟩
theorem wm_yX6_set : Cond.instanceMethod yX6_set ∈ zgw := List.mem_filter.mpr ⟨List.mem_of_getElem? (i := 800) (by decide +kernel), rfl⟩
theorem ws_yX6_set : Cond.selects RX6 yX6_set yX6_set ∈ zgw := List.mem_filter.mpr ⟨List.mem_of_getElem? (i := 801) (by decide +kernel), rfl⟩
theorem wc_yX6_set : Cond.code yX6_set cX6_set 2 (some (.int)) ∈ zgw := List.mem_filter.mpr ⟨List.mem_of_getElem? (i := 802) (by decide +kernel), rfl⟩
theorem w_703 : Cond.methodLink RX0 155 yJ6_bitCount_0f7a4 ∈ zgw := List.mem_filter.mpr ⟨List.mem_of_getElem? (i := 803) (by decide +kernel), rfl⟩
theorem w_704 : Cond.methodLink RX0 72 yX0_numberVertices ∈ zgw := List.mem_filter.mpr ⟨List.mem_of_getElem? (i := 804) (by decide +kernel), rfl⟩
theorem wm_yX0_numberVertices : Cond.instanceMethod yX0_numberVertices ∈ zgw := List.mem_filter.mpr ⟨List.mem_of_getElem? (i := 806) (by decide +kernel), rfl⟩
theorem wc_yX0_numberVertices : Cond.code yX0_numberVertices cX0_numberVertices 5 none ∈ zgw := List.mem_filter.mpr ⟨List.mem_of_getElem? (i := 807) (by decide +kernel), rfl⟩
theorem w_708 : Cond.methodLink RX0 160 yJ7_fill_53178 ∈ zgw := List.mem_filter.mpr ⟨List.mem_of_getElem? (i := 808) (by decide +kernel), rfl⟩
theorem w_709 : Cond.methodLink RX0 166 yX0_numberVertex ∈ zgw := List.mem_filter.mpr ⟨List.mem_of_getElem? (i := 809) (by decide +kernel), rfl⟩
theorem wm_yX0_numberVertex : Cond.instanceMethod yX0_numberVertex ∈ zgw := List.mem_filter.mpr ⟨List.mem_of_getElem? (i := 811) (by decide +kernel), rfl⟩
theorem wc_yX0_numberVertex : Cond.code yX0_numberVertex cX0_numberVertex 3 (some (.int)) ∈ zgw := List.mem_filter.mpr ⟨List.mem_of_getElem? (i := 812) (by decide +kernel), rfl⟩
theorem w_714 : Cond.methodLink RX0 169 yX0_targetInMerged ∈ zgw := List.mem_filter.mpr ⟨List.mem_of_getElem? (i := 814) (by decide +kernel), rfl⟩
theorem wm_yX0_targetInMerged : Cond.instanceMethod yX0_targetInMerged ∈ zgw := List.mem_filter.mpr ⟨List.mem_of_getElem? (i := 816) (by decide +kernel), rfl⟩
theorem wc_yX0_targetInMerged : Cond.code yX0_targetInMerged cX0_targetInMerged 4 (some (.int)) ∈ zgw := List.mem_filter.mpr ⟨List.mem_of_getElem? (i := 817) (by decide +kernel), rfl⟩
theorem w_718 : Cond.methodLink RX0 176 yX1_has ∈ zgw := List.mem_filter.mpr ⟨List.mem_of_getElem? (i := 818) (by decide +kernel), rfl⟩
theorem w_719 : Cond.methodLink RX10 330 yX0_size ∈ zgw := List.mem_filter.mpr ⟨List.mem_of_getElem? (i := 819) (by decide +kernel), rfl⟩
theorem wm_yX0_size : Cond.instanceMethod yX0_size ∈ zgw := List.mem_filter.mpr ⟨List.mem_of_getElem? (i := 820) (by decide +kernel), rfl⟩
theorem ws_yX0_size : Cond.selects RX0 yX0_size yX0_size ∈ zgw := List.mem_filter.mpr ⟨List.mem_of_getElem? (i := 821) (by decide +kernel), rfl⟩
theorem wc_yX0_size : Cond.code yX0_size cX0_size 1 (some (.int)) ∈ zgw := List.mem_filter.mpr ⟨List.mem_of_getElem? (i := 822) (by decide +kernel), rfl⟩
theorem w_723 : Cond.methodLink RX10 230 yX0_shape ∈ zgw := List.mem_filter.mpr ⟨List.mem_of_getElem? (i := 823) (by decide +kernel), rfl⟩
theorem wm_yX0_shape : Cond.instanceMethod yX0_shape ∈ zgw := List.mem_filter.mpr ⟨List.mem_of_getElem? (i := 824) (by decide +kernel), rfl⟩
theorem ws_yX0_shape : Cond.selects RX0 yX0_shape yX0_shape ∈ zgw := List.mem_filter.mpr ⟨List.mem_of_getElem? (i := 825) (by decide +kernel), rfl⟩
theorem wc_yX0_shape : Cond.code yX0_shape cX0_shape 1 (some ((.object "SoficShift$Graph"))) ∈ zgw := List.mem_filter.mpr ⟨List.mem_of_getElem? (i := 826) (by decide +kernel), rfl⟩
theorem w_727 : Cond.methodLink RL 102 yX10_writeReset ∈ zgw := List.mem_filter.mpr ⟨List.mem_of_getElem? (i := 827) (by decide +kernel), rfl⟩
theorem wm_yX10_writeReset : Cond.instanceMethod yX10_writeReset ∈ zgw := List.mem_filter.mpr ⟨List.mem_of_getElem? (i := 828) (by decide +kernel), rfl⟩
theorem ws_yX10_writeReset : Cond.selects RX10 yX10_writeReset yX10_writeReset ∈ zgw := List.mem_filter.mpr ⟨List.mem_of_getElem? (i := 829) (by decide +kernel), rfl⟩
theorem wc_yX10_writeReset : Cond.code yX10_writeReset cX10_writeReset 3 (some (.int)) ∈ zgw := List.mem_filter.mpr ⟨List.mem_of_getElem? (i := 830) (by decide +kernel), rfl⟩
theorem w_731 : Cond.methodLink RX10 237 yX0_spellReset ∈ zgw := List.mem_filter.mpr ⟨List.mem_of_getElem? (i := 831) (by decide +kernel), rfl⟩
theorem wm_yX0_spellReset : Cond.instanceMethod yX0_spellReset ∈ zgw := List.mem_filter.mpr ⟨List.mem_of_getElem? (i := 832) (by decide +kernel), rfl⟩
theorem ws_yX0_spellReset : Cond.selects RX0 yX0_spellReset yX0_spellReset ∈ zgw := List.mem_filter.mpr ⟨List.mem_of_getElem? (i := 833) (by decide +kernel), rfl⟩
theorem wc_yX0_spellReset : Cond.code yX0_spellReset cX0_spellReset 2 none ∈ zgw := List.mem_filter.mpr ⟨List.mem_of_getElem? (i := 834) (by decide +kernel), rfl⟩
theorem w_735 : Cond.methodLink RX0 82 yX6_spellPath ∈ zgw := List.mem_filter.mpr ⟨List.mem_of_getElem? (i := 835) (by decide +kernel), rfl⟩
theorem wm_yX6_spellPath : Cond.instanceMethod yX6_spellPath ∈ zgw := List.mem_filter.mpr ⟨List.mem_of_getElem? (i := 836) (by decide +kernel), rfl⟩
theorem ws_yX6_spellPath : Cond.selects RX6 yX6_spellPath yX6_spellPath ∈ zgw := List.mem_filter.mpr ⟨List.mem_of_getElem? (i := 837) (by decide +kernel), rfl⟩
theorem wc_yX6_spellPath : Cond.code yX6_spellPath cX6_spellPath 5 none ∈ zgw := List.mem_filter.mpr ⟨List.mem_of_getElem? (i := 838) (by decide +kernel), rfl⟩
theorem w_739 : Cond.methodLink RX6 59 yX7_turnAround ∈ zgw := List.mem_filter.mpr ⟨List.mem_of_getElem? (i := 839) (by decide +kernel), rfl⟩
theorem wm_yX7_turnAround : Cond.instanceMethod yX7_turnAround ∈ zgw := List.mem_filter.mpr ⟨List.mem_of_getElem? (i := 840) (by decide +kernel), rfl⟩
theorem ws_yX7_turnAround : Cond.selects RX7 yX7_turnAround yX7_turnAround ∈ zgw := List.mem_filter.mpr ⟨List.mem_of_getElem? (i := 841) (by decide +kernel), rfl⟩
theorem wc_yX7_turnAround : Cond.code yX7_turnAround cX7_turnAround 4 none ∈ zgw := List.mem_filter.mpr ⟨List.mem_of_getElem? (i := 842) (by decide +kernel), rfl⟩
theorem w_743 : Cond.methodLink RX7 21 Lib.Math.min.name ∈ zgw := List.mem_filter.mpr ⟨List.mem_of_getElem? (i := 843) (by decide +kernel), rfl⟩
theorem w_744 : Cond.methodLink RL 106 yX10_memory ∈ zgw := List.mem_filter.mpr ⟨List.mem_of_getElem? (i := 844) (by decide +kernel), rfl⟩
theorem wm_yX10_memory : Cond.instanceMethod yX10_memory ∈ zgw := List.mem_filter.mpr ⟨List.mem_of_getElem? (i := 845) (by decide +kernel), rfl⟩
theorem ws_yX10_memory : Cond.selects RX10 yX10_memory yX10_memory ∈ zgw := List.mem_filter.mpr ⟨List.mem_of_getElem? (i := 846) (by decide +kernel), rfl⟩
theorem wc_yX10_memory : Cond.code yX10_memory cX10_memory 3 (some (.int)) ∈ zgw := List.mem_filter.mpr ⟨List.mem_of_getElem? (i := 847) (by decide +kernel), rfl⟩
theorem w_748 : Cond.methodLink RX10 241 yX0_stepsToSynchronize ∈ zgw := List.mem_filter.mpr ⟨List.mem_of_getElem? (i := 848) (by decide +kernel), rfl⟩
theorem wm_yX0_stepsToSynchronize : Cond.instanceMethod yX0_stepsToSynchronize ∈ zgw := List.mem_filter.mpr ⟨List.mem_of_getElem? (i := 849) (by decide +kernel), rfl⟩
theorem ws_yX0_stepsToSynchronize : Cond.selects RX0 yX0_stepsToSynchronize yX0_stepsToSynchronize ∈ zgw := List.mem_filter.mpr ⟨List.mem_of_getElem? (i := 850) (by decide +kernel), rfl⟩
theorem wc_yX0_stepsToSynchronize : Cond.code yX0_stepsToSynchronize cX0_stepsToSynchronize 5 (some (.int)) ∈ zgw := List.mem_filter.mpr ⟨List.mem_of_getElem? (i := 851) (by decide +kernel), rfl⟩
theorem w_752 : Cond.methodLink RX0 179 yX0_pairsAfter ∈ zgw := List.mem_filter.mpr ⟨List.mem_of_getElem? (i := 852) (by decide +kernel), rfl⟩
theorem wm_yX0_pairsAfter : Cond.instanceMethod yX0_pairsAfter ∈ zgw := List.mem_filter.mpr ⟨List.mem_of_getElem? (i := 854) (by decide +kernel), rfl⟩
theorem wc_yX0_pairsAfter : Cond.code yX0_pairsAfter cX0_pairsAfter 7 (some (.long)) ∈ zgw := List.mem_filter.mpr ⟨List.mem_of_getElem? (i := 855) (by decide +kernel), rfl⟩
theorem w_756 : Cond.methodLink RX0 183 yX0_pairsAfterPair ∈ zgw := List.mem_filter.mpr ⟨List.mem_of_getElem? (i := 856) (by decide +kernel), rfl⟩
theorem wm_yX0_pairsAfterPair : Cond.instanceMethod yX0_pairsAfterPair ∈ zgw := List.mem_filter.mpr ⟨List.mem_of_getElem? (i := 858) (by decide +kernel), rfl⟩
theorem wc_yX0_pairsAfterPair : Cond.code yX0_pairsAfterPair cX0_pairsAfterPair 8 (some (.long)) ∈ zgw := List.mem_filter.mpr ⟨List.mem_of_getElem? (i := 859) (by decide +kernel), rfl⟩
theorem w_760 : Cond.methodLink RX0 187 Lib.Math.max.name ∈ zgw := List.mem_filter.mpr ⟨List.mem_of_getElem? (i := 860) (by decide +kernel), rfl⟩
theorem wt_Lib_Math_max_name : Cond.static Lib.Math.max.name ∈ zgw := List.mem_filter.mpr ⟨List.mem_of_getElem? (i := 861) (by decide +kernel), rfl⟩
theorem wc_Lib_Math_max_name : Cond.code Lib.Math.max.name Lib.Math.max.code 2 (some (.int)) ∈ zgw := List.mem_filter.mpr ⟨List.mem_of_getElem? (i := 862) (by decide +kernel), rfl⟩
theorem w_763 : Cond.methodLink RL 110 yX10_isMixing ∈ zgw := List.mem_filter.mpr ⟨List.mem_of_getElem? (i := 863) (by decide +kernel), rfl⟩
theorem wm_yX10_isMixing : Cond.instanceMethod yX10_isMixing ∈ zgw := List.mem_filter.mpr ⟨List.mem_of_getElem? (i := 864) (by decide +kernel), rfl⟩
theorem ws_yX10_isMixing : Cond.selects RX10 yX10_isMixing yX10_isMixing ∈ zgw := List.mem_filter.mpr ⟨List.mem_of_getElem? (i := 865) (by decide +kernel), rfl⟩
theorem wc_yX10_isMixing : Cond.code yX10_isMixing cX10_isMixing 3 (some (.int)) ∈ zgw := List.mem_filter.mpr ⟨List.mem_of_getElem? (i := 866) (by decide +kernel), rfl⟩
theorem w_767 : Cond.methodLink RL 114 yX10_writeDifference ∈ zgw := List.mem_filter.mpr ⟨List.mem_of_getElem? (i := 867) (by decide +kernel), rfl⟩
theorem wm_yX10_writeDifference : Cond.instanceMethod yX10_writeDifference ∈ zgw := List.mem_filter.mpr ⟨List.mem_of_getElem? (i := 868) (by decide +kernel), rfl⟩
theorem ws_yX10_writeDifference : Cond.selects RX10 yX10_writeDifference yX10_writeDifference ∈ zgw := List.mem_filter.mpr ⟨List.mem_of_getElem? (i := 869) (by decide +kernel), rfl⟩
theorem wc_yX10_writeDifference : Cond.code yX10_writeDifference cX10_writeDifference 3 (some (.int)) ∈ zgw := List.mem_filter.mpr ⟨List.mem_of_getElem? (i := 870) (by decide +kernel), rfl⟩
theorem w_771 : Cond.methodLink RX10 247 yX4_findDifference ∈ zgw := List.mem_filter.mpr ⟨List.mem_of_getElem? (i := 871) (by decide +kernel), rfl⟩
theorem wm_yX4_findDifference : Cond.instanceMethod yX4_findDifference ∈ zgw := List.mem_filter.mpr ⟨List.mem_of_getElem? (i := 872) (by decide +kernel), rfl⟩
theorem ws_yX4_findDifference : Cond.selects RX4 yX4_findDifference yX4_findDifference ∈ zgw := List.mem_filter.mpr ⟨List.mem_of_getElem? (i := 873) (by decide +kernel), rfl⟩
theorem wc_yX4_findDifference : Cond.code yX4_findDifference cX4_findDifference 11 (some (.boolean)) ∈ zgw := List.mem_filter.mpr ⟨List.mem_of_getElem? (i := 874) (by decide +kernel), rfl⟩
theorem w_775 : Cond.methodLink RX4 25 yX4_forget ∈ zgw := List.mem_filter.mpr ⟨List.mem_of_getElem? (i := 875) (by decide +kernel), rfl⟩
theorem wm_yX4_forget : Cond.instanceMethod yX4_forget ∈ zgw := List.mem_filter.mpr ⟨List.mem_of_getElem? (i := 877) (by decide +kernel), rfl⟩
theorem wc_yX4_forget : Cond.code yX4_forget cX4_forget 2 none ∈ zgw := List.mem_filter.mpr ⟨List.mem_of_getElem? (i := 878) (by decide +kernel), rfl⟩
theorem w_779 : Cond.methodLink RX4 44 yX4_pairAt ∈ zgw := List.mem_filter.mpr ⟨List.mem_of_getElem? (i := 879) (by decide +kernel), rfl⟩
theorem wm_yX4_pairAt : Cond.instanceMethod yX4_pairAt ∈ zgw := List.mem_filter.mpr ⟨List.mem_of_getElem? (i := 881) (by decide +kernel), rfl⟩
theorem wc_yX4_pairAt : Cond.code yX4_pairAt cX4_pairAt 3 (some (.int)) ∈ zgw := List.mem_filter.mpr ⟨List.mem_of_getElem? (i := 882) (by decide +kernel), rfl⟩
theorem w_783 : Cond.constantLong RX4 52 (65535) ∈ zgw := List.mem_filter.mpr ⟨List.mem_of_getElem? (i := 883) (by decide +kernel), rfl⟩
theorem w_784 : Cond.constant RX4 54 (65535) ∈ zgw := List.mem_filter.mpr ⟨List.mem_of_getElem? (i := 884) (by decide +kernel), rfl⟩
theorem w_785 : Cond.methodLink RX4 28 yX6_start ∈ zgw := List.mem_filter.mpr ⟨List.mem_of_getElem? (i := 885) (by decide +kernel), rfl⟩
theorem w_786 : Cond.methodLink RX4 32 yX4_isDifference ∈ zgw := List.mem_filter.mpr ⟨List.mem_of_getElem? (i := 886) (by decide +kernel), rfl⟩
theorem wt_yX4_isDifference : Cond.static yX4_isDifference ∈ zgw := List.mem_filter.mpr ⟨List.mem_of_getElem? (i := 887) (by decide +kernel), rfl⟩
theorem wc_yX4_isDifference : Cond.code yX4_isDifference cX4_isDifference 1 (some (.boolean)) ∈ zgw := List.mem_filter.mpr ⟨List.mem_of_getElem? (i := 888) (by decide +kernel), rfl⟩
theorem w_789 : Cond.methodLink RX4 36 yX4_note ∈ zgw := List.mem_filter.mpr ⟨List.mem_of_getElem? (i := 889) (by decide +kernel), rfl⟩
theorem wm_yX4_note : Cond.instanceMethod yX4_note ∈ zgw := List.mem_filter.mpr ⟨List.mem_of_getElem? (i := 891) (by decide +kernel), rfl⟩
theorem wc_yX4_note : Cond.code yX4_note cX4_note 3 none ∈ zgw := List.mem_filter.mpr ⟨List.mem_of_getElem? (i := 892) (by decide +kernel), rfl⟩
theorem w_793 : Cond.methodLink RX4 57 yX4_makeRoom ∈ zgw := List.mem_filter.mpr ⟨List.mem_of_getElem? (i := 893) (by decide +kernel), rfl⟩
theorem wm_yX4_makeRoom : Cond.instanceMethod yX4_makeRoom ∈ zgw := List.mem_filter.mpr ⟨List.mem_of_getElem? (i := 895) (by decide +kernel), rfl⟩
theorem wc_yX4_makeRoom : Cond.code yX4_makeRoom cX4_makeRoom 1 none ∈ zgw := List.mem_filter.mpr ⟨List.mem_of_getElem? (i := 896) (by decide +kernel), rfl⟩
theorem w_797 : Cond.constant RX4 43 (65536) ∈ zgw := List.mem_filter.mpr ⟨List.mem_of_getElem? (i := 897) (by decide +kernel), rfl⟩
theorem w_798 : Cond.methodLink RX4 60 yJ7_copyOf_c38d5 ∈ zgw := List.mem_filter.mpr ⟨List.mem_of_getElem? (i := 898) (by decide +kernel), rfl⟩
theorem wt_yJ7_copyOf_c38d5 : Cond.static yJ7_copyOf_c38d5 ∈ zgw := List.mem_filter.mpr ⟨List.mem_of_getElem? (i := 899) (by decide +kernel), rfl⟩
theorem wc_yJ7_copyOf_c38d5 : Cond.code yJ7_copyOf_c38d5 cJ7_copyOf_c38d5 3 (some ((.array .long))) ∈ zgw := List.mem_filter.mpr ⟨List.mem_of_getElem? (i := 900) (by decide +kernel), rfl⟩
theorem w_808 : Cond.methodLink RJ7 304 Lib.Math.min.name ∈ zgw := List.mem_filter.mpr ⟨List.mem_of_getElem? (i := 908) (by decide +kernel), rfl⟩
theorem w_809 : Cond.methodLink RJ7 150 arraycopyName ∈ zgw := List.mem_filter.mpr ⟨List.mem_of_getElem? (i := 909) (by decide +kernel), rfl⟩
theorem w_810 : Cond.constantLong RX4 55 (65536) ∈ zgw := List.mem_filter.mpr ⟨List.mem_of_getElem? (i := 910) (by decide +kernel), rfl⟩
theorem w_811 : Cond.methodLink RX4 48 yX6_after ∈ zgw := List.mem_filter.mpr ⟨List.mem_of_getElem? (i := 911) (by decide +kernel), rfl⟩
theorem w_812 : Cond.methodLink RX10 251 yX4_spellDifference ∈ zgw := List.mem_filter.mpr ⟨List.mem_of_getElem? (i := 912) (by decide +kernel), rfl⟩
theorem wm_yX4_spellDifference : Cond.instanceMethod yX4_spellDifference ∈ zgw := List.mem_filter.mpr ⟨List.mem_of_getElem? (i := 913) (by decide +kernel), rfl⟩
theorem ws_yX4_spellDifference : Cond.selects RX4 yX4_spellDifference yX4_spellDifference ∈ zgw := List.mem_filter.mpr ⟨List.mem_of_getElem? (i := 914) (by decide +kernel), rfl⟩
theorem wc_yX4_spellDifference : Cond.code yX4_spellDifference cX4_spellDifference 4 none ∈ zgw := List.mem_filter.mpr ⟨List.mem_of_getElem? (i := 915) (by decide +kernel), rfl⟩
theorem w_816 : Cond.methodLink RX4 66 yX7_clear ∈ zgw := List.mem_filter.mpr ⟨List.mem_of_getElem? (i := 916) (by decide +kernel), rfl⟩
theorem w_817 : Cond.methodLink RX4 71 yX7_addLetter ∈ zgw := List.mem_filter.mpr ⟨List.mem_of_getElem? (i := 917) (by decide +kernel), rfl⟩
theorem w_818 : Cond.methodLink RX4 75 yX4_arrivalAt ∈ zgw := List.mem_filter.mpr ⟨List.mem_of_getElem? (i := 918) (by decide +kernel), rfl⟩
theorem wm_yX4_arrivalAt : Cond.instanceMethod yX4_arrivalAt ∈ zgw := List.mem_filter.mpr ⟨List.mem_of_getElem? (i := 920) (by decide +kernel), rfl⟩
theorem wc_yX4_arrivalAt : Cond.code yX4_arrivalAt cX4_arrivalAt 3 (some (.int)) ∈ zgw := List.mem_filter.mpr ⟨List.mem_of_getElem? (i := 921) (by decide +kernel), rfl⟩
theorem w_822 : Cond.methodLink RX4 78 yX7_turnAround ∈ zgw := List.mem_filter.mpr ⟨List.mem_of_getElem? (i := 922) (by decide +kernel), rfl⟩
theorem w_823 : Cond.methodLink RL 118 yX10_union ∈ zgw := List.mem_filter.mpr ⟨List.mem_of_getElem? (i := 923) (by decide +kernel), rfl⟩
theorem wm_yX10_union : Cond.instanceMethod yX10_union ∈ zgw := List.mem_filter.mpr ⟨List.mem_of_getElem? (i := 924) (by decide +kernel), rfl⟩
theorem ws_yX10_union : Cond.selects RX10 yX10_union yX10_union ∈ zgw := List.mem_filter.mpr ⟨List.mem_of_getElem? (i := 925) (by decide +kernel), rfl⟩
theorem wc_yX10_union : Cond.code yX10_union cX10_union 6 (some (.int)) ∈ zgw := List.mem_filter.mpr ⟨List.mem_of_getElem? (i := 926) (by decide +kernel), rfl⟩
theorem w_827 : Cond.methodLink RX10 254 yX8_clear ∈ zgw := List.mem_filter.mpr ⟨List.mem_of_getElem? (i := 927) (by decide +kernel), rfl⟩
theorem wm_yX8_clear : Cond.instanceMethod yX8_clear ∈ zgw := List.mem_filter.mpr ⟨List.mem_of_getElem? (i := 928) (by decide +kernel), rfl⟩
theorem ws_yX8_clear : Cond.selects RX8 yX8_clear yX8_clear ∈ zgw := List.mem_filter.mpr ⟨List.mem_of_getElem? (i := 929) (by decide +kernel), rfl⟩
theorem wc_yX8_clear : Cond.code yX8_clear cX8_clear 1 none ∈ zgw := List.mem_filter.mpr ⟨List.mem_of_getElem? (i := 930) (by decide +kernel), rfl⟩
theorem w_831 : Cond.methodLink RX8 19 yJ7_fill_d0a16 ∈ zgw := List.mem_filter.mpr ⟨List.mem_of_getElem? (i := 931) (by decide +kernel), rfl⟩
theorem w_832 : Cond.methodLink RX10 255 yX8_link ∈ zgw := List.mem_filter.mpr ⟨List.mem_of_getElem? (i := 932) (by decide +kernel), rfl⟩
theorem wm_yX8_link : Cond.instanceMethod yX8_link ∈ zgw := List.mem_filter.mpr ⟨List.mem_of_getElem? (i := 933) (by decide +kernel), rfl⟩
theorem ws_yX8_link : Cond.selects RX8 yX8_link yX8_link ∈ zgw := List.mem_filter.mpr ⟨List.mem_of_getElem? (i := 934) (by decide +kernel), rfl⟩
theorem wc_yX8_link : Cond.code yX8_link cX8_link 5 none ∈ zgw := List.mem_filter.mpr ⟨List.mem_of_getElem? (i := 935) (by decide +kernel), rfl⟩
theorem w_837 : Cond.methodLink RX10 259 yX10_storeWide ∈ zgw := List.mem_filter.mpr ⟨List.mem_of_getElem? (i := 937) (by decide +kernel), rfl⟩
theorem wm_yX10_storeWide : Cond.instanceMethod yX10_storeWide ∈ zgw := List.mem_filter.mpr ⟨List.mem_of_getElem? (i := 939) (by decide +kernel), rfl⟩
theorem wc_yX10_storeWide : Cond.code yX10_storeWide cX10_storeWide 3 (some (.int)) ∈ zgw := List.mem_filter.mpr ⟨List.mem_of_getElem? (i := 940) (by decide +kernel), rfl⟩
theorem w_841 : Cond.methodLink RX10 320 yX8_compressCore ∈ zgw := List.mem_filter.mpr ⟨List.mem_of_getElem? (i := 941) (by decide +kernel), rfl⟩
theorem wm_yX8_compressCore : Cond.instanceMethod yX8_compressCore ∈ zgw := List.mem_filter.mpr ⟨List.mem_of_getElem? (i := 942) (by decide +kernel), rfl⟩
theorem ws_yX8_compressCore : Cond.selects RX8 yX8_compressCore yX8_compressCore ∈ zgw := List.mem_filter.mpr ⟨List.mem_of_getElem? (i := 943) (by decide +kernel), rfl⟩
theorem wc_yX8_compressCore : Cond.code yX8_compressCore cX8_compressCore 6 (some (.int)) ∈ zgw := List.mem_filter.mpr ⟨List.mem_of_getElem? (i := 944) (by decide +kernel), rfl⟩
theorem w_845 : Cond.methodLink RX8 29 yX8_trim ∈ zgw := List.mem_filter.mpr ⟨List.mem_of_getElem? (i := 945) (by decide +kernel), rfl⟩
theorem wm_yX8_trim : Cond.instanceMethod yX8_trim ∈ zgw := List.mem_filter.mpr ⟨List.mem_of_getElem? (i := 947) (by decide +kernel), rfl⟩
theorem wc_yX8_trim : Cond.code yX8_trim cX8_trim 12 (some (.long)) ∈ zgw := List.mem_filter.mpr ⟨List.mem_of_getElem? (i := 948) (by decide +kernel), rfl⟩
theorem w_849 : Cond.constantLong RX8 52 (-1) ∈ zgw := List.mem_filter.mpr ⟨List.mem_of_getElem? (i := 949) (by decide +kernel), rfl⟩
theorem w_850 : Cond.methodLink RX8 54 yX8_successors ∈ zgw := List.mem_filter.mpr ⟨List.mem_of_getElem? (i := 950) (by decide +kernel), rfl⟩
theorem wm_yX8_successors : Cond.instanceMethod yX8_successors ∈ zgw := List.mem_filter.mpr ⟨List.mem_of_getElem? (i := 952) (by decide +kernel), rfl⟩
theorem wc_yX8_successors : Cond.code yX8_successors cX8_successors 5 (some (.long)) ∈ zgw := List.mem_filter.mpr ⟨List.mem_of_getElem? (i := 953) (by decide +kernel), rfl⟩
theorem w_854 : Cond.methodLink RX8 58 yX8_row ∈ zgw := List.mem_filter.mpr ⟨List.mem_of_getElem? (i := 954) (by decide +kernel), rfl⟩
theorem wm_yX8_row : Cond.instanceMethod yX8_row ∈ zgw := List.mem_filter.mpr ⟨List.mem_of_getElem? (i := 956) (by decide +kernel), rfl⟩
theorem wc_yX8_row : Cond.code yX8_row cX8_row 3 (some (.long)) ∈ zgw := List.mem_filter.mpr ⟨List.mem_of_getElem? (i := 957) (by decide +kernel), rfl⟩
theorem w_858 : Cond.methodLink RX8 33 yJ13_bitCount_95d88 ∈ zgw := List.mem_filter.mpr ⟨List.mem_of_getElem? (i := 958) (by decide +kernel), rfl⟩
theorem wt_yJ13_bitCount_95d88 : Cond.static yJ13_bitCount_95d88 ∈ zgw := List.mem_filter.mpr ⟨List.mem_of_getElem? (i := 959) (by decide +kernel), rfl⟩
theorem wc_yJ13_bitCount_95d88 : Cond.code yJ13_bitCount_95d88 cJ13_bitCount_95d88 2 (some (.int)) ∈ zgw := List.mem_filter.mpr ⟨List.mem_of_getElem? (i := 960) (by decide +kernel), rfl⟩
theorem w_861 : Cond.constantLong RJ13 314 (6148914691236517205) ∈ zgw := List.mem_filter.mpr ⟨List.mem_of_getElem? (i := 961) (by decide +kernel), rfl⟩
theorem w_862 : Cond.constantLong RJ13 316 (3689348814741910323) ∈ zgw := List.mem_filter.mpr ⟨List.mem_of_getElem? (i := 962) (by decide +kernel), rfl⟩
theorem w_863 : Cond.constantLong RJ13 318 (1085102592571150095) ∈ zgw := List.mem_filter.mpr ⟨List.mem_of_getElem? (i := 963) (by decide +kernel), rfl⟩
theorem w_864 : Cond.methodLink RX8 39 yX8_numberVertices ∈ zgw := List.mem_filter.mpr ⟨List.mem_of_getElem? (i := 964) (by decide +kernel), rfl⟩
theorem wm_yX8_numberVertices : Cond.instanceMethod yX8_numberVertices ∈ zgw := List.mem_filter.mpr ⟨List.mem_of_getElem? (i := 966) (by decide +kernel), rfl⟩
theorem wc_yX8_numberVertices : Cond.code yX8_numberVertices cX8_numberVertices 5 none ∈ zgw := List.mem_filter.mpr ⟨List.mem_of_getElem? (i := 967) (by decide +kernel), rfl⟩
theorem w_868 : Cond.methodLink RX8 43 yX1_clear ∈ zgw := List.mem_filter.mpr ⟨List.mem_of_getElem? (i := 968) (by decide +kernel), rfl⟩
theorem w_869 : Cond.methodLink RX8 48 yX8_copyEdges ∈ zgw := List.mem_filter.mpr ⟨List.mem_of_getElem? (i := 969) (by decide +kernel), rfl⟩
theorem wm_yX8_copyEdges : Cond.instanceMethod yX8_copyEdges ∈ zgw := List.mem_filter.mpr ⟨List.mem_of_getElem? (i := 971) (by decide +kernel), rfl⟩
theorem wc_yX8_copyEdges : Cond.code yX8_copyEdges cX8_copyEdges 10 none ∈ zgw := List.mem_filter.mpr ⟨List.mem_of_getElem? (i := 972) (by decide +kernel), rfl⟩
theorem w_873 : Cond.methodLink RX8 62 yX1_put ∈ zgw := List.mem_filter.mpr ⟨List.mem_of_getElem? (i := 973) (by decide +kernel), rfl⟩
theorem w_874 : Cond.methodLink RL 122 yX10_intersect ∈ zgw := List.mem_filter.mpr ⟨List.mem_of_getElem? (i := 974) (by decide +kernel), rfl⟩
theorem wm_yX10_intersect : Cond.instanceMethod yX10_intersect ∈ zgw := List.mem_filter.mpr ⟨List.mem_of_getElem? (i := 975) (by decide +kernel), rfl⟩
theorem ws_yX10_intersect : Cond.selects RX10 yX10_intersect yX10_intersect ∈ zgw := List.mem_filter.mpr ⟨List.mem_of_getElem? (i := 976) (by decide +kernel), rfl⟩
theorem wc_yX10_intersect : Cond.code yX10_intersect cX10_intersect 8 (some (.int)) ∈ zgw := List.mem_filter.mpr ⟨List.mem_of_getElem? (i := 977) (by decide +kernel), rfl⟩
theorem w_878 : Cond.methodLink RX10 262 yX10_product ∈ zgw := List.mem_filter.mpr ⟨List.mem_of_getElem? (i := 978) (by decide +kernel), rfl⟩
theorem wt_yX10_product : Cond.static yX10_product ∈ zgw := List.mem_filter.mpr ⟨List.mem_of_getElem? (i := 979) (by decide +kernel), rfl⟩
theorem wc_yX10_product : Cond.code yX10_product cX10_product 5 (some (.long)) ∈ zgw := List.mem_filter.mpr ⟨List.mem_of_getElem? (i := 980) (by decide +kernel), rfl⟩
theorem w_881 : Cond.methodLink RL 126 yX10_reverse ∈ zgw := List.mem_filter.mpr ⟨List.mem_of_getElem? (i := 981) (by decide +kernel), rfl⟩
theorem wm_yX10_reverse : Cond.instanceMethod yX10_reverse ∈ zgw := List.mem_filter.mpr ⟨List.mem_of_getElem? (i := 982) (by decide +kernel), rfl⟩
theorem ws_yX10_reverse : Cond.selects RX10 yX10_reverse yX10_reverse ∈ zgw := List.mem_filter.mpr ⟨List.mem_of_getElem? (i := 983) (by decide +kernel), rfl⟩
theorem wc_yX10_reverse : Cond.code yX10_reverse cX10_reverse 6 (some (.int)) ∈ zgw := List.mem_filter.mpr ⟨List.mem_of_getElem? (i := 984) (by decide +kernel), rfl⟩
theorem w_885 : Cond.methodLink RL 130 yX10_relabel ∈ zgw := List.mem_filter.mpr ⟨List.mem_of_getElem? (i := 985) (by decide +kernel), rfl⟩
theorem wm_yX10_relabel : Cond.instanceMethod yX10_relabel ∈ zgw := List.mem_filter.mpr ⟨List.mem_of_getElem? (i := 986) (by decide +kernel), rfl⟩
theorem ws_yX10_relabel : Cond.selects RX10 yX10_relabel yX10_relabel ∈ zgw := List.mem_filter.mpr ⟨List.mem_of_getElem? (i := 987) (by decide +kernel), rfl⟩
theorem wc_yX10_relabel : Cond.code yX10_relabel cX10_relabel 7 (some (.int)) ∈ zgw := List.mem_filter.mpr ⟨List.mem_of_getElem? (i := 988) (by decide +kernel), rfl⟩
theorem w_889 : Cond.methodLink RX10 266 yX1_link ∈ zgw := List.mem_filter.mpr ⟨List.mem_of_getElem? (i := 989) (by decide +kernel), rfl⟩
theorem w_890 : Cond.methodLink RL 134 yX10_forbid ∈ zgw := List.mem_filter.mpr ⟨List.mem_of_getElem? (i := 990) (by decide +kernel), rfl⟩
theorem wm_yX10_forbid : Cond.instanceMethod yX10_forbid ∈ zgw := List.mem_filter.mpr ⟨List.mem_of_getElem? (i := 991) (by decide +kernel), rfl⟩
theorem ws_yX10_forbid : Cond.selects RX10 yX10_forbid yX10_forbid ∈ zgw := List.mem_filter.mpr ⟨List.mem_of_getElem? (i := 992) (by decide +kernel), rfl⟩
theorem wc_yX10_forbid : Cond.code yX10_forbid cX10_forbid 6 (some (.int)) ∈ zgw := List.mem_filter.mpr ⟨List.mem_of_getElem? (i := 993) (by decide +kernel), rfl⟩
theorem w_894 : Cond.methodLink RX10 268 yX10_trackInput ∈ zgw := List.mem_filter.mpr ⟨List.mem_of_getElem? (i := 994) (by decide +kernel), rfl⟩
theorem wm_yX10_trackInput : Cond.instanceMethod yX10_trackInput ∈ zgw := List.mem_filter.mpr ⟨List.mem_of_getElem? (i := 996) (by decide +kernel), rfl⟩
theorem wc_yX10_trackInput : Cond.code yX10_trackInput cX10_trackInput 7 none ∈ zgw := List.mem_filter.mpr ⟨List.mem_of_getElem? (i := 997) (by decide +kernel), rfl⟩
theorem w_898 : Cond.methodLink RX10 340 yX10_overlap ∈ zgw := List.mem_filter.mpr ⟨List.mem_of_getElem? (i := 998) (by decide +kernel), rfl⟩
theorem wm_yX10_overlap : Cond.instanceMethod yX10_overlap ∈ zgw := List.mem_filter.mpr ⟨List.mem_of_getElem? (i := 1000) (by decide +kernel), rfl⟩
theorem wc_yX10_overlap : Cond.code yX10_overlap cX10_overlap 4 (some (.int)) ∈ zgw := List.mem_filter.mpr ⟨List.mem_of_getElem? (i := 1001) (by decide +kernel), rfl⟩
theorem w_902 : Cond.methodLink RX10 343 yX10_repeatsPrefix ∈ zgw := List.mem_filter.mpr ⟨List.mem_of_getElem? (i := 1002) (by decide +kernel), rfl⟩
theorem wm_yX10_repeatsPrefix : Cond.instanceMethod yX10_repeatsPrefix ∈ zgw := List.mem_filter.mpr ⟨List.mem_of_getElem? (i := 1004) (by decide +kernel), rfl⟩
theorem wc_yX10_repeatsPrefix : Cond.code yX10_repeatsPrefix cX10_repeatsPrefix 4 (some (.boolean)) ∈ zgw := List.mem_filter.mpr ⟨List.mem_of_getElem? (i := 1005) (by decide +kernel), rfl⟩
theorem w_906 : Cond.methodLink RL 138 yX10_writeGraph ∈ zgw := List.mem_filter.mpr ⟨List.mem_of_getElem? (i := 1006) (by decide +kernel), rfl⟩
theorem wm_yX10_writeGraph : Cond.instanceMethod yX10_writeGraph ∈ zgw := List.mem_filter.mpr ⟨List.mem_of_getElem? (i := 1007) (by decide +kernel), rfl⟩
theorem ws_yX10_writeGraph : Cond.selects RX10 yX10_writeGraph yX10_writeGraph ∈ zgw := List.mem_filter.mpr ⟨List.mem_of_getElem? (i := 1008) (by decide +kernel), rfl⟩
theorem wc_yX10_writeGraph : Cond.code yX10_writeGraph cX10_writeGraph 5 (some (.int)) ∈ zgw := List.mem_filter.mpr ⟨List.mem_of_getElem? (i := 1009) (by decide +kernel), rfl⟩
theorem w_910 : Cond.methodLink RX10 271 yX10_writeEdge ∈ zgw := List.mem_filter.mpr ⟨List.mem_of_getElem? (i := 1010) (by decide +kernel), rfl⟩
theorem wm_yX10_writeEdge : Cond.instanceMethod yX10_writeEdge ∈ zgw := List.mem_filter.mpr ⟨List.mem_of_getElem? (i := 1012) (by decide +kernel), rfl⟩
theorem wc_yX10_writeEdge : Cond.code yX10_writeEdge cX10_writeEdge 4 none ∈ zgw := List.mem_filter.mpr ⟨List.mem_of_getElem? (i := 1013) (by decide +kernel), rfl⟩
theorem w_914 : Cond.methodLink RX10 346 yX7_addLetter ∈ zgw := List.mem_filter.mpr ⟨List.mem_of_getElem? (i := 1014) (by decide +kernel), rfl⟩
theorem w_915 : Cond.methodLink RL 142 yX10_output ∈ zgw := List.mem_filter.mpr ⟨List.mem_of_getElem? (i := 1015) (by decide +kernel), rfl⟩
theorem wm_yX10_output : Cond.instanceMethod yX10_output ∈ zgw := List.mem_filter.mpr ⟨List.mem_of_getElem? (i := 1016) (by decide +kernel), rfl⟩
theorem ws_yX10_output : Cond.selects RX10 yX10_output yX10_output ∈ zgw := List.mem_filter.mpr ⟨List.mem_of_getElem? (i := 1017) (by decide +kernel), rfl⟩
theorem wc_yX10_output : Cond.code yX10_output cX10_output 2 (some (.int)) ∈ zgw := List.mem_filter.mpr ⟨List.mem_of_getElem? (i := 1018) (by decide +kernel), rfl⟩
theorem w_919 : Cond.methodLink RL 146 yX10_undo ∈ zgw := List.mem_filter.mpr ⟨List.mem_of_getElem? (i := 1019) (by decide +kernel), rfl⟩
theorem wm_yX10_undo : Cond.instanceMethod yX10_undo ∈ zgw := List.mem_filter.mpr ⟨List.mem_of_getElem? (i := 1020) (by decide +kernel), rfl⟩
theorem ws_yX10_undo : Cond.selects RX10 yX10_undo yX10_undo ∈ zgw := List.mem_filter.mpr ⟨List.mem_of_getElem? (i := 1021) (by decide +kernel), rfl⟩
theorem wc_yX10_undo : Cond.code yX10_undo cX10_undo 2 (some (.int)) ∈ zgw := List.mem_filter.mpr ⟨List.mem_of_getElem? (i := 1022) (by decide +kernel), rfl⟩
theorem w_923 : Cond.methodLink RX10 277 yX2_pop ∈ zgw := List.mem_filter.mpr ⟨List.mem_of_getElem? (i := 1023) (by decide +kernel), rfl⟩
theorem wm_yX2_pop : Cond.instanceMethod yX2_pop ∈ zgw := List.mem_filter.mpr ⟨List.mem_of_getElem? (i := 1024) (by decide +kernel), rfl⟩
theorem ws_yX2_pop : Cond.selects RX2 yX2_pop yX2_pop ∈ zgw := List.mem_filter.mpr ⟨List.mem_of_getElem? (i := 1025) (by decide +kernel), rfl⟩
theorem wc_yX2_pop : Cond.code yX2_pop cX2_pop 3 (some (.int)) ∈ zgw := List.mem_filter.mpr ⟨List.mem_of_getElem? (i := 1026) (by decide +kernel), rfl⟩
theorem w_927 : Cond.methodLink RL 151 yX10_save ∈ zgw := List.mem_filter.mpr ⟨List.mem_of_getElem? (i := 1027) (by decide +kernel), rfl⟩
theorem wm_yX10_save : Cond.instanceMethod yX10_save ∈ zgw := List.mem_filter.mpr ⟨List.mem_of_getElem? (i := 1028) (by decide +kernel), rfl⟩
theorem ws_yX10_save : Cond.selects RX10 yX10_save yX10_save ∈ zgw := List.mem_filter.mpr ⟨List.mem_of_getElem? (i := 1029) (by decide +kernel), rfl⟩
theorem wc_yX10_save : Cond.code yX10_save cX10_save 2 (some (.int)) ∈ zgw := List.mem_filter.mpr ⟨List.mem_of_getElem? (i := 1030) (by decide +kernel), rfl⟩
theorem w_931 : Cond.methodLink RX10 285 yX10_countAllEdges ∈ zgw := List.mem_filter.mpr ⟨List.mem_of_getElem? (i := 1031) (by decide +kernel), rfl⟩
theorem wm_yX10_countAllEdges : Cond.instanceMethod yX10_countAllEdges ∈ zgw := List.mem_filter.mpr ⟨List.mem_of_getElem? (i := 1033) (by decide +kernel), rfl⟩
theorem wc_yX10_countAllEdges : Cond.code yX10_countAllEdges cX10_countAllEdges 3 (some (.int)) ∈ zgw := List.mem_filter.mpr ⟨List.mem_of_getElem? (i := 1034) (by decide +kernel), rfl⟩
theorem w_935 : Cond.methodLink RL 155 yX10_restore ∈ zgw := List.mem_filter.mpr ⟨List.mem_of_getElem? (i := 1035) (by decide +kernel), rfl⟩
theorem wm_yX10_restore : Cond.instanceMethod yX10_restore ∈ zgw := List.mem_filter.mpr ⟨List.mem_of_getElem? (i := 1036) (by decide +kernel), rfl⟩
theorem ws_yX10_restore : Cond.selects RX10 yX10_restore yX10_restore ∈ zgw := List.mem_filter.mpr ⟨List.mem_of_getElem? (i := 1037) (by decide +kernel), rfl⟩
theorem wc_yX10_restore : Cond.code yX10_restore cX10_restore 2 (some (.int)) ∈ zgw := List.mem_filter.mpr ⟨List.mem_of_getElem? (i := 1038) (by decide +kernel), rfl⟩
theorem w_939 : Cond.methodLink RX10 288 yX2_clear ∈ zgw := List.mem_filter.mpr ⟨List.mem_of_getElem? (i := 1039) (by decide +kernel), rfl⟩
theorem wm_yX2_clear : Cond.instanceMethod yX2_clear ∈ zgw := List.mem_filter.mpr ⟨List.mem_of_getElem? (i := 1040) (by decide +kernel), rfl⟩
theorem ws_yX2_clear : Cond.selects RX2 yX2_clear yX2_clear ∈ zgw := List.mem_filter.mpr ⟨List.mem_of_getElem? (i := 1041) (by decide +kernel), rfl⟩
theorem wc_yX2_clear : Cond.code yX2_clear cX2_clear 1 none ∈ zgw := List.mem_filter.mpr ⟨List.mem_of_getElem? (i := 1042) (by decide +kernel), rfl⟩
theorem w_943 : Cond.methodLink RL 159 yX10_createArray ∈ zgw := List.mem_filter.mpr ⟨List.mem_of_getElem? (i := 1043) (by decide +kernel), rfl⟩
theorem wm_yX10_createArray : Cond.instanceMethod yX10_createArray ∈ zgw := List.mem_filter.mpr ⟨List.mem_of_getElem? (i := 1044) (by decide +kernel), rfl⟩
theorem ws_yX10_createArray : Cond.selects RX10 yX10_createArray yX10_createArray ∈ zgw := List.mem_filter.mpr ⟨List.mem_of_getElem? (i := 1045) (by decide +kernel), rfl⟩
theorem wc_yX10_createArray : Cond.code yX10_createArray cX10_createArray 4 (some (.int)) ∈ zgw := List.mem_filter.mpr ⟨List.mem_of_getElem? (i := 1046) (by decide +kernel), rfl⟩
theorem w_947 : Cond.methodLink RX10 289 yX10_isArray ∈ zgw := List.mem_filter.mpr ⟨List.mem_of_getElem? (i := 1047) (by decide +kernel), rfl⟩
theorem wt_yX10_isArray : Cond.static yX10_isArray ∈ zgw := List.mem_filter.mpr ⟨List.mem_of_getElem? (i := 1048) (by decide +kernel), rfl⟩
theorem wc_yX10_isArray : Cond.code yX10_isArray cX10_isArray 1 (some (.boolean)) ∈ zgw := List.mem_filter.mpr ⟨List.mem_of_getElem? (i := 1049) (by decide +kernel), rfl⟩
theorem w_950 : Cond.methodLink RX10 292 yX3_create ∈ zgw := List.mem_filter.mpr ⟨List.mem_of_getElem? (i := 1050) (by decide +kernel), rfl⟩
theorem wm_yX3_create : Cond.instanceMethod yX3_create ∈ zgw := List.mem_filter.mpr ⟨List.mem_of_getElem? (i := 1051) (by decide +kernel), rfl⟩
theorem ws_yX3_create : Cond.selects RX3 yX3_create yX3_create ∈ zgw := List.mem_filter.mpr ⟨List.mem_of_getElem? (i := 1052) (by decide +kernel), rfl⟩
theorem wc_yX3_create : Cond.code yX3_create cX3_create 4 none ∈ zgw := List.mem_filter.mpr ⟨List.mem_of_getElem? (i := 1053) (by decide +kernel), rfl⟩
theorem w_954 : Cond.methodLink RX3 23 Lib.Math.min.name ∈ zgw := List.mem_filter.mpr ⟨List.mem_of_getElem? (i := 1054) (by decide +kernel), rfl⟩
theorem w_955 : Cond.methodLink RX3 29 Lib.Math.max.name ∈ zgw := List.mem_filter.mpr ⟨List.mem_of_getElem? (i := 1055) (by decide +kernel), rfl⟩
theorem w_956 : Cond.methodLink RL 163 yX10_setElement ∈ zgw := List.mem_filter.mpr ⟨List.mem_of_getElem? (i := 1056) (by decide +kernel), rfl⟩
theorem wm_yX10_setElement : Cond.instanceMethod yX10_setElement ∈ zgw := List.mem_filter.mpr ⟨List.mem_of_getElem? (i := 1057) (by decide +kernel), rfl⟩
theorem ws_yX10_setElement : Cond.selects RX10 yX10_setElement yX10_setElement ∈ zgw := List.mem_filter.mpr ⟨List.mem_of_getElem? (i := 1058) (by decide +kernel), rfl⟩
theorem wc_yX10_setElement : Cond.code yX10_setElement cX10_setElement 5 (some (.int)) ∈ zgw := List.mem_filter.mpr ⟨List.mem_of_getElem? (i := 1059) (by decide +kernel), rfl⟩
theorem w_960 : Cond.methodLink RX10 296 yX3_exists ∈ zgw := List.mem_filter.mpr ⟨List.mem_of_getElem? (i := 1060) (by decide +kernel), rfl⟩
theorem wm_yX3_exists : Cond.instanceMethod yX3_exists ∈ zgw := List.mem_filter.mpr ⟨List.mem_of_getElem? (i := 1061) (by decide +kernel), rfl⟩
theorem ws_yX3_exists : Cond.selects RX3 yX3_exists yX3_exists ∈ zgw := List.mem_filter.mpr ⟨List.mem_of_getElem? (i := 1062) (by decide +kernel), rfl⟩
theorem wc_yX3_exists : Cond.code yX3_exists cX3_exists 1 (some (.boolean)) ∈ zgw := List.mem_filter.mpr ⟨List.mem_of_getElem? (i := 1063) (by decide +kernel), rfl⟩
theorem w_964 : Cond.methodLink RX10 299 yX3_hasIndex ∈ zgw := List.mem_filter.mpr ⟨List.mem_of_getElem? (i := 1064) (by decide +kernel), rfl⟩
theorem wm_yX3_hasIndex : Cond.instanceMethod yX3_hasIndex ∈ zgw := List.mem_filter.mpr ⟨List.mem_of_getElem? (i := 1065) (by decide +kernel), rfl⟩
theorem ws_yX3_hasIndex : Cond.selects RX3 yX3_hasIndex yX3_hasIndex ∈ zgw := List.mem_filter.mpr ⟨List.mem_of_getElem? (i := 1066) (by decide +kernel), rfl⟩
theorem wc_yX3_hasIndex : Cond.code yX3_hasIndex cX3_hasIndex 2 (some (.boolean)) ∈ zgw := List.mem_filter.mpr ⟨List.mem_of_getElem? (i := 1067) (by decide +kernel), rfl⟩
theorem w_968 : Cond.methodLink RX10 302 yX3_set ∈ zgw := List.mem_filter.mpr ⟨List.mem_of_getElem? (i := 1068) (by decide +kernel), rfl⟩
theorem wm_yX3_set : Cond.instanceMethod yX3_set ∈ zgw := List.mem_filter.mpr ⟨List.mem_of_getElem? (i := 1069) (by decide +kernel), rfl⟩
theorem ws_yX3_set : Cond.selects RX3 yX3_set yX3_set ∈ zgw := List.mem_filter.mpr ⟨List.mem_of_getElem? (i := 1070) (by decide +kernel), rfl⟩
theorem wc_yX3_set : Cond.code yX3_set cX3_set 3 none ∈ zgw := List.mem_filter.mpr ⟨List.mem_of_getElem? (i := 1071) (by decide +kernel), rfl⟩
theorem w_972 : Cond.methodLink RX3 35 yX3_hasIndex ∈ zgw := List.mem_filter.mpr ⟨List.mem_of_getElem? (i := 1072) (by decide +kernel), rfl⟩
theorem w_973 : Cond.constantFloat RX3 39 (1090519040) ∈ zgw := List.mem_filter.mpr ⟨List.mem_of_getElem? (i := 1073) (by decide +kernel), rfl⟩
theorem w_974 : Cond.methodLink RX3 40 yX3_converted ∈ zgw := List.mem_filter.mpr ⟨List.mem_of_getElem? (i := 1074) (by decide +kernel), rfl⟩
theorem wm_yX3_converted : Cond.instanceMethod yX3_converted ∈ zgw := List.mem_filter.mpr ⟨List.mem_of_getElem? (i := 1076) (by decide +kernel), rfl⟩
theorem wc_yX3_converted : Cond.code yX3_converted cX3_converted 3 (some (.float)) ∈ zgw := List.mem_filter.mpr ⟨List.mem_of_getElem? (i := 1077) (by decide +kernel), rfl⟩
theorem w_978 : Cond.methodLink RL 167 yX10_setNaN ∈ zgw := List.mem_filter.mpr ⟨List.mem_of_getElem? (i := 1078) (by decide +kernel), rfl⟩
theorem wm_yX10_setNaN : Cond.instanceMethod yX10_setNaN ∈ zgw := List.mem_filter.mpr ⟨List.mem_of_getElem? (i := 1079) (by decide +kernel), rfl⟩
theorem ws_yX10_setNaN : Cond.selects RX10 yX10_setNaN yX10_setNaN ∈ zgw := List.mem_filter.mpr ⟨List.mem_of_getElem? (i := 1080) (by decide +kernel), rfl⟩
theorem wc_yX10_setNaN : Cond.code yX10_setNaN cX10_setNaN 4 (some (.int)) ∈ zgw := List.mem_filter.mpr ⟨List.mem_of_getElem? (i := 1081) (by decide +kernel), rfl⟩
theorem w_982 : Cond.methodLink RX10 305 yX3_isFloat ∈ zgw := List.mem_filter.mpr ⟨List.mem_of_getElem? (i := 1082) (by decide +kernel), rfl⟩
theorem wm_yX3_isFloat : Cond.instanceMethod yX3_isFloat ∈ zgw := List.mem_filter.mpr ⟨List.mem_of_getElem? (i := 1083) (by decide +kernel), rfl⟩
theorem ws_yX3_isFloat : Cond.selects RX3 yX3_isFloat yX3_isFloat ∈ zgw := List.mem_filter.mpr ⟨List.mem_of_getElem? (i := 1084) (by decide +kernel), rfl⟩
theorem wc_yX3_isFloat : Cond.code yX3_isFloat cX3_isFloat 1 (some (.boolean)) ∈ zgw := List.mem_filter.mpr ⟨List.mem_of_getElem? (i := 1085) (by decide +kernel), rfl⟩
theorem w_986 : Cond.methodLink RX10 308 yX3_makeNaN ∈ zgw := List.mem_filter.mpr ⟨List.mem_of_getElem? (i := 1086) (by decide +kernel), rfl⟩
theorem wm_yX3_makeNaN : Cond.instanceMethod yX3_makeNaN ∈ zgw := List.mem_filter.mpr ⟨List.mem_of_getElem? (i := 1087) (by decide +kernel), rfl⟩
theorem ws_yX3_makeNaN : Cond.selects RX3 yX3_makeNaN yX3_makeNaN ∈ zgw := List.mem_filter.mpr ⟨List.mem_of_getElem? (i := 1088) (by decide +kernel), rfl⟩
theorem wc_yX3_makeNaN : Cond.code yX3_makeNaN cX3_makeNaN 2 none ∈ zgw := List.mem_filter.mpr ⟨List.mem_of_getElem? (i := 1089) (by decide +kernel), rfl⟩
theorem w_990 : Cond.methodLink RL 171 yX10_compareElements ∈ zgw := List.mem_filter.mpr ⟨List.mem_of_getElem? (i := 1090) (by decide +kernel), rfl⟩
theorem wm_yX10_compareElements : Cond.instanceMethod yX10_compareElements ∈ zgw := List.mem_filter.mpr ⟨List.mem_of_getElem? (i := 1091) (by decide +kernel), rfl⟩
theorem ws_yX10_compareElements : Cond.selects RX10 yX10_compareElements yX10_compareElements ∈ zgw := List.mem_filter.mpr ⟨List.mem_of_getElem? (i := 1092) (by decide +kernel), rfl⟩
theorem wc_yX10_compareElements : Cond.code yX10_compareElements cX10_compareElements 5 (some (.int)) ∈ zgw := List.mem_filter.mpr ⟨List.mem_of_getElem? (i := 1093) (by decide +kernel), rfl⟩
theorem w_994 : Cond.methodLink RX10 311 yX3_order ∈ zgw := List.mem_filter.mpr ⟨List.mem_of_getElem? (i := 1094) (by decide +kernel), rfl⟩
theorem wm_yX3_order : Cond.instanceMethod yX3_order ∈ zgw := List.mem_filter.mpr ⟨List.mem_of_getElem? (i := 1095) (by decide +kernel), rfl⟩
theorem ws_yX3_order : Cond.selects RX3 yX3_order yX3_order ∈ zgw := List.mem_filter.mpr ⟨List.mem_of_getElem? (i := 1096) (by decide +kernel), rfl⟩
theorem wc_yX3_order : Cond.code yX3_order cX3_order 3 (some (.int)) ∈ zgw := List.mem_filter.mpr ⟨List.mem_of_getElem? (i := 1097) (by decide +kernel), rfl⟩
theorem w_998 : Cond.methodLink RL 175 yX10_checkCounts ∈ zgw := List.mem_filter.mpr ⟨List.mem_of_getElem? (i := 1098) (by decide +kernel), rfl⟩
theorem wm_yX10_checkCounts : Cond.instanceMethod yX10_checkCounts ∈ zgw := List.mem_filter.mpr ⟨List.mem_of_getElem? (i := 1099) (by decide +kernel), rfl⟩
theorem ws_yX10_checkCounts : Cond.selects RX10 yX10_checkCounts yX10_checkCounts ∈ zgw := List.mem_filter.mpr ⟨List.mem_of_getElem? (i := 1100) (by decide +kernel), rfl⟩
theorem wc_yX10_checkCounts : Cond.code yX10_checkCounts cX10_checkCounts 5 (some (.int)) ∈ zgw := List.mem_filter.mpr ⟨List.mem_of_getElem? (i := 1101) (by decide +kernel), rfl⟩
theorem w_1002 : Cond.methodLink RX10 314 yX3_length ∈ zgw := List.mem_filter.mpr ⟨List.mem_of_getElem? (i := 1102) (by decide +kernel), rfl⟩
theorem wm_yX3_length : Cond.instanceMethod yX3_length ∈ zgw := List.mem_filter.mpr ⟨List.mem_of_getElem? (i := 1103) (by decide +kernel), rfl⟩
theorem ws_yX3_length : Cond.selects RX3 yX3_length yX3_length ∈ zgw := List.mem_filter.mpr ⟨List.mem_of_getElem? (i := 1104) (by decide +kernel), rfl⟩
theorem wc_yX3_length : Cond.code yX3_length cX3_length 1 (some (.int)) ∈ zgw := List.mem_filter.mpr ⟨List.mem_of_getElem? (i := 1105) (by decide +kernel), rfl⟩
theorem w_1006 : Cond.methodLink RX10 315 yX3_holds ∈ zgw := List.mem_filter.mpr ⟨List.mem_of_getElem? (i := 1106) (by decide +kernel), rfl⟩
theorem wm_yX3_holds : Cond.instanceMethod yX3_holds ∈ zgw := List.mem_filter.mpr ⟨List.mem_of_getElem? (i := 1107) (by decide +kernel), rfl⟩
theorem ws_yX3_holds : Cond.selects RX3 yX3_holds yX3_holds ∈ zgw := List.mem_filter.mpr ⟨List.mem_of_getElem? (i := 1108) (by decide +kernel), rfl⟩
theorem wc_yX3_holds : Cond.code yX3_holds cX3_holds 4 (some (.boolean)) ∈ zgw := List.mem_filter.mpr ⟨List.mem_of_getElem? (i := 1109) (by decide +kernel), rfl⟩
theorem w_1010 : Cond.classLink RL 10 RX11 ∈ zgw := List.mem_filter.mpr ⟨List.mem_of_getElem? (i := 1110) (by decide +kernel), rfl⟩
theorem wn_11 : Cond.instantiable RX11 44 ∈ zgw := List.mem_filter.mpr ⟨List.mem_of_getElem? (i := 1111) (by decide +kernel), rfl⟩
theorem w_1012 : Cond.methodLink RL 12 yX11_init ∈ zgw := List.mem_filter.mpr ⟨List.mem_of_getElem? (i := 1112) (by decide +kernel), rfl⟩
theorem wm_yX11_init : Cond.instanceMethod yX11_init ∈ zgw := List.mem_filter.mpr ⟨List.mem_of_getElem? (i := 1113) (by decide +kernel), rfl⟩
theorem wc_yX11_init : Cond.code yX11_init cX11_init 1 none ∈ zgw := List.mem_filter.mpr ⟨List.mem_of_getElem? (i := 1114) (by decide +kernel), rfl⟩
theorem w_1015 : Cond.methodLink RX11 3 Lib.objectInit ∈ zgw := List.mem_filter.mpr ⟨List.mem_of_getElem? (i := 1115) (by decide +kernel), rfl⟩
theorem w_1016 : Cond.constant RX11 95 (65536) ∈ zgw := List.mem_filter.mpr ⟨List.mem_of_getElem? (i := 1116) (by decide +kernel), rfl⟩
theorem w_1017 : Cond.fieldLink RX11 9 "SoficShiftModel" "graphs" "[I" ∈ zgw := List.mem_filter.mpr ⟨List.mem_of_getElem? (i := 1117) (by decide +kernel), rfl⟩
theorem w_1018 : Cond.fieldLink RX11 15 "SoficShiftModel" "made" "[I" ∈ zgw := List.mem_filter.mpr ⟨List.mem_of_getElem? (i := 1118) (by decide +kernel), rfl⟩
theorem w_1019 : Cond.fieldLink RX11 18 "SoficShiftModel" "history" "[I" ∈ zgw := List.mem_filter.mpr ⟨List.mem_of_getElem? (i := 1119) (by decide +kernel), rfl⟩
theorem w_1020 : Cond.fieldLink RX11 21 "SoficShiftModel" "historySlots" "[I" ∈ zgw := List.mem_filter.mpr ⟨List.mem_of_getElem? (i := 1120) (by decide +kernel), rfl⟩
theorem w_1021 : Cond.fieldLink RX11 131 "SoficShiftModel" "recorded" "I" ∈ zgw := List.mem_filter.mpr ⟨List.mem_of_getElem? (i := 1121) (by decide +kernel), rfl⟩
theorem w_1022 : Cond.fieldLink RX11 24 "SoficShiftModel" "saved" "[I" ∈ zgw := List.mem_filter.mpr ⟨List.mem_of_getElem? (i := 1122) (by decide +kernel), rfl⟩
theorem w_1023 : Cond.fieldLink RX11 331 "SoficShiftModel" "isSaved" "Z" ∈ zgw := List.mem_filter.mpr ⟨List.mem_of_getElem? (i := 1123) (by decide +kernel), rfl⟩
theorem w_1024 : Cond.fieldLink RX11 27 "SoficShiftModel" "input" "[I" ∈ zgw := List.mem_filter.mpr ⟨List.mem_of_getElem? (i := 1124) (by decide +kernel), rfl⟩
theorem w_1025 : Cond.fieldLink RX11 156 "SoficShiftModel" "fed" "I" ∈ zgw := List.mem_filter.mpr ⟨List.mem_of_getElem? (i := 1125) (by decide +kernel), rfl⟩
theorem w_1026 : Cond.fieldLink RX11 30 "SoficShiftModel" "output" "[I" ∈ zgw := List.mem_filter.mpr ⟨List.mem_of_getElem? (i := 1126) (by decide +kernel), rfl⟩
theorem w_1027 : Cond.fieldLink RX11 170 "SoficShiftModel" "written" "I" ∈ zgw := List.mem_filter.mpr ⟨List.mem_of_getElem? (i := 1127) (by decide +kernel), rfl⟩
theorem w_1028 : Cond.fieldLink RX11 33 "SoficShiftModel" "word" "[I" ∈ zgw := List.mem_filter.mpr ⟨List.mem_of_getElem? (i := 1128) (by decide +kernel), rfl⟩
theorem w_1029 : Cond.fieldLink RX11 167 "SoficShiftModel" "length" "I" ∈ zgw := List.mem_filter.mpr ⟨List.mem_of_getElem? (i := 1129) (by decide +kernel), rfl⟩
theorem w_1030 : Cond.fieldLink RX11 36 "SoficShiftModel" "images" "[I" ∈ zgw := List.mem_filter.mpr ⟨List.mem_of_getElem? (i := 1130) (by decide +kernel), rfl⟩
theorem w_1031 : Cond.fieldLink RX11 193 "SoficShiftModel" "all" "I" ∈ zgw := List.mem_filter.mpr ⟨List.mem_of_getElem? (i := 1131) (by decide +kernel), rfl⟩
theorem w_1032 : Cond.fieldLink RX11 39 "SoficShiftModel" "ways" "[J" ∈ zgw := List.mem_filter.mpr ⟨List.mem_of_getElem? (i := 1132) (by decide +kernel), rfl⟩
theorem w_1033 : Cond.fieldLink RX11 43 "SoficShiftModel" "places" "[I" ∈ zgw := List.mem_filter.mpr ⟨List.mem_of_getElem? (i := 1133) (by decide +kernel), rfl⟩
theorem w_1034 : Cond.fieldLink RX11 235 "SoficShiftModel" "placed" "I" ∈ zgw := List.mem_filter.mpr ⟨List.mem_of_getElem? (i := 1134) (by decide +kernel), rfl⟩
theorem w_1035 : Cond.fieldLink RX11 46 "SoficShiftModel" "matrix" "[J" ∈ zgw := List.mem_filter.mpr ⟨List.mem_of_getElem? (i := 1135) (by decide +kernel), rfl⟩
theorem w_1036 : Cond.fieldLink RX11 49 "SoficShiftModel" "power" "[J" ∈ zgw := List.mem_filter.mpr ⟨List.mem_of_getElem? (i := 1136) (by decide +kernel), rfl⟩
theorem w_1037 : Cond.fieldLink RX11 52 "SoficShiftModel" "product" "[J" ∈ zgw := List.mem_filter.mpr ⟨List.mem_of_getElem? (i := 1137) (by decide +kernel), rfl⟩
theorem w_1038 : Cond.fieldLink RX11 55 "SoficShiftModel" "coefficients" "[J" ∈ zgw := List.mem_filter.mpr ⟨List.mem_of_getElem? (i := 1138) (by decide +kernel), rfl⟩
theorem w_1039 : Cond.fieldLink RX11 58 "SoficShiftModel" "sets" "[I" ∈ zgw := List.mem_filter.mpr ⟨List.mem_of_getElem? (i := 1139) (by decide +kernel), rfl⟩
theorem w_1040 : Cond.fieldLink RX11 259 "SoficShiftModel" "setMany" "I" ∈ zgw := List.mem_filter.mpr ⟨List.mem_of_getElem? (i := 1140) (by decide +kernel), rfl⟩
theorem w_1041 : Cond.fieldLink RX11 61 "SoficShiftModel" "classes" "[I" ∈ zgw := List.mem_filter.mpr ⟨List.mem_of_getElem? (i := 1141) (by decide +kernel), rfl⟩
theorem w_1042 : Cond.fieldLink RX11 64 "SoficShiftModel" "refined" "[I" ∈ zgw := List.mem_filter.mpr ⟨List.mem_of_getElem? (i := 1142) (by decide +kernel), rfl⟩
theorem w_1043 : Cond.fieldLink RX11 67 "SoficShiftModel" "isSeen" "[Z" ∈ zgw := List.mem_filter.mpr ⟨List.mem_of_getElem? (i := 1143) (by decide +kernel), rfl⟩
theorem w_1044 : Cond.fieldLink RX11 71 "SoficShiftModel" "seen" "[I" ∈ zgw := List.mem_filter.mpr ⟨List.mem_of_getElem? (i := 1144) (by decide +kernel), rfl⟩
theorem w_1045 : Cond.fieldLink RX11 250 "SoficShiftModel" "seenMany" "I" ∈ zgw := List.mem_filter.mpr ⟨List.mem_of_getElem? (i := 1145) (by decide +kernel), rfl⟩
theorem w_1046 : Cond.fieldLink RX11 74 "SoficShiftModel" "members" "[I" ∈ zgw := List.mem_filter.mpr ⟨List.mem_of_getElem? (i := 1146) (by decide +kernel), rfl⟩
theorem w_1047 : Cond.fieldLink RX11 274 "SoficShiftModel" "memberMany" "I" ∈ zgw := List.mem_filter.mpr ⟨List.mem_of_getElem? (i := 1147) (by decide +kernel), rfl⟩
theorem w_1048 : Cond.fieldLink RX11 77 "SoficShiftModel" "leads" "[I" ∈ zgw := List.mem_filter.mpr ⟨List.mem_of_getElem? (i := 1148) (by decide +kernel), rfl⟩
theorem w_1049 : Cond.fieldLink RX11 80 "SoficShiftModel" "come" "[I" ∈ zgw := List.mem_filter.mpr ⟨List.mem_of_getElem? (i := 1149) (by decide +kernel), rfl⟩
theorem w_1050 : Cond.fieldLink RX11 83 "SoficShiftModel" "comeBy" "[I" ∈ zgw := List.mem_filter.mpr ⟨List.mem_of_getElem? (i := 1150) (by decide +kernel), rfl⟩
theorem w_1051 : Cond.fieldLink RX11 86 "SoficShiftModel" "numbers" "[I" ∈ zgw := List.mem_filter.mpr ⟨List.mem_of_getElem? (i := 1151) (by decide +kernel), rfl⟩
theorem w_1052 : Cond.fieldLink RX11 89 "SoficShiftModel" "cover" "[I" ∈ zgw := List.mem_filter.mpr ⟨List.mem_of_getElem? (i := 1152) (by decide +kernel), rfl⟩
theorem w_1053 : Cond.fieldLink RX11 92 "SoficShiftModel" "others" "[I" ∈ zgw := List.mem_filter.mpr ⟨List.mem_of_getElem? (i := 1153) (by decide +kernel), rfl⟩
theorem w_1054 : Cond.fieldLink RX11 96 "SoficShiftModel" "pairs" "[I" ∈ zgw := List.mem_filter.mpr ⟨List.mem_of_getElem? (i := 1154) (by decide +kernel), rfl⟩
theorem w_1055 : Cond.fieldLink RX11 99 "SoficShiftModel" "pairCome" "[I" ∈ zgw := List.mem_filter.mpr ⟨List.mem_of_getElem? (i := 1155) (by decide +kernel), rfl⟩
theorem w_1056 : Cond.fieldLink RX11 102 "SoficShiftModel" "wide" "[J" ∈ zgw := List.mem_filter.mpr ⟨List.mem_of_getElem? (i := 1156) (by decide +kernel), rfl⟩
theorem w_1057 : Cond.fieldLink RX11 105 "SoficShiftModel" "types" "[I" ∈ zgw := List.mem_filter.mpr ⟨List.mem_of_getElem? (i := 1157) (by decide +kernel), rfl⟩
theorem w_1058 : Cond.fieldLink RX11 108 "SoficShiftModel" "sizes" "[I" ∈ zgw := List.mem_filter.mpr ⟨List.mem_of_getElem? (i := 1158) (by decide +kernel), rfl⟩
theorem w_1059 : Cond.fieldLink RX11 111 "SoficShiftModel" "items" "[I" ∈ zgw := List.mem_filter.mpr ⟨List.mem_of_getElem? (i := 1159) (by decide +kernel), rfl⟩
theorem w_1060 : Cond.fieldLink RX11 114 "SoficShiftModel" "reals" "[F" ∈ zgw := List.mem_filter.mpr ⟨List.mem_of_getElem? (i := 1160) (by decide +kernel), rfl⟩
theorem w_1150 : Cond.methodLink RL 17 yX11_addEdge ∈ zgw := List.mem_filter.mpr ⟨List.mem_of_getElem? (i := 1250) (by decide +kernel), rfl⟩
theorem wm_yX11_addEdge : Cond.instanceMethod yX11_addEdge ∈ zgw := List.mem_filter.mpr ⟨List.mem_of_getElem? (i := 1251) (by decide +kernel), rfl⟩
theorem ws_yX11_addEdge : Cond.selects RX11 yX11_addEdge yX11_addEdge ∈ zgw := List.mem_filter.mpr ⟨List.mem_of_getElem? (i := 1252) (by decide +kernel), rfl⟩
theorem wc_yX11_addEdge : Cond.code yX11_addEdge cX11_addEdge 5 (some (.int)) ∈ zgw := List.mem_filter.mpr ⟨List.mem_of_getElem? (i := 1253) (by decide +kernel), rfl⟩
theorem w_1154 : Cond.methodLink RX11 135 yX11_isSlot ∈ zgw := List.mem_filter.mpr ⟨List.mem_of_getElem? (i := 1254) (by decide +kernel), rfl⟩
theorem wt_yX11_isSlot : Cond.static yX11_isSlot ∈ zgw := List.mem_filter.mpr ⟨List.mem_of_getElem? (i := 1255) (by decide +kernel), rfl⟩
theorem wc_yX11_isSlot : Cond.code yX11_isSlot cX11_isSlot 1 (some (.boolean)) ∈ zgw := List.mem_filter.mpr ⟨List.mem_of_getElem? (i := 1256) (by decide +kernel), rfl⟩
theorem w_1157 : Cond.methodLink RX11 118 yX11_isIn ∈ zgw := List.mem_filter.mpr ⟨List.mem_of_getElem? (i := 1257) (by decide +kernel), rfl⟩
theorem wt_yX11_isIn : Cond.static yX11_isIn ∈ zgw := List.mem_filter.mpr ⟨List.mem_of_getElem? (i := 1258) (by decide +kernel), rfl⟩
theorem wc_yX11_isIn : Cond.code yX11_isIn cX11_isIn 3 (some (.boolean)) ∈ zgw := List.mem_filter.mpr ⟨List.mem_of_getElem? (i := 1259) (by decide +kernel), rfl⟩
theorem w_1160 : Cond.methodLink RX11 139 yX11_isVertex ∈ zgw := List.mem_filter.mpr ⟨List.mem_of_getElem? (i := 1260) (by decide +kernel), rfl⟩
theorem wt_yX11_isVertex : Cond.static yX11_isVertex ∈ zgw := List.mem_filter.mpr ⟨List.mem_of_getElem? (i := 1261) (by decide +kernel), rfl⟩
theorem wc_yX11_isVertex : Cond.code yX11_isVertex cX11_isVertex 1 (some (.boolean)) ∈ zgw := List.mem_filter.mpr ⟨List.mem_of_getElem? (i := 1262) (by decide +kernel), rfl⟩
theorem w_1163 : Cond.methodLink RX11 142 yX11_isLetter ∈ zgw := List.mem_filter.mpr ⟨List.mem_of_getElem? (i := 1263) (by decide +kernel), rfl⟩
theorem wt_yX11_isLetter : Cond.static yX11_isLetter ∈ zgw := List.mem_filter.mpr ⟨List.mem_of_getElem? (i := 1264) (by decide +kernel), rfl⟩
theorem wc_yX11_isLetter : Cond.code yX11_isLetter cX11_isLetter 1 (some (.boolean)) ∈ zgw := List.mem_filter.mpr ⟨List.mem_of_getElem? (i := 1265) (by decide +kernel), rfl⟩
theorem w_1166 : Cond.methodLink RX11 145 yX11_make ∈ zgw := List.mem_filter.mpr ⟨List.mem_of_getElem? (i := 1266) (by decide +kernel), rfl⟩
theorem wm_yX11_make : Cond.instanceMethod yX11_make ∈ zgw := List.mem_filter.mpr ⟨List.mem_of_getElem? (i := 1268) (by decide +kernel), rfl⟩
theorem wc_yX11_make : Cond.code yX11_make cX11_make 3 none ∈ zgw := List.mem_filter.mpr ⟨List.mem_of_getElem? (i := 1269) (by decide +kernel), rfl⟩
theorem w_1170 : Cond.methodLink RX11 149 yX11_replace ∈ zgw := List.mem_filter.mpr ⟨List.mem_of_getElem? (i := 1270) (by decide +kernel), rfl⟩
theorem wm_yX11_replace : Cond.instanceMethod yX11_replace ∈ zgw := List.mem_filter.mpr ⟨List.mem_of_getElem? (i := 1272) (by decide +kernel), rfl⟩
theorem wc_yX11_replace : Cond.code yX11_replace cX11_replace 4 none ∈ zgw := List.mem_filter.mpr ⟨List.mem_of_getElem? (i := 1273) (by decide +kernel), rfl⟩
theorem w_1174 : Cond.methodLink RX11 128 yX11_edgesOf ∈ zgw := List.mem_filter.mpr ⟨List.mem_of_getElem? (i := 1274) (by decide +kernel), rfl⟩
theorem wm_yX11_edgesOf : Cond.instanceMethod yX11_edgesOf ∈ zgw := List.mem_filter.mpr ⟨List.mem_of_getElem? (i := 1276) (by decide +kernel), rfl⟩
theorem wc_yX11_edgesOf : Cond.code yX11_edgesOf cX11_edgesOf 4 (some (.int)) ∈ zgw := List.mem_filter.mpr ⟨List.mem_of_getElem? (i := 1277) (by decide +kernel), rfl⟩
theorem w_1178 : Cond.methodLink RX11 122 yJ6_bitCount_0f7a4 ∈ zgw := List.mem_filter.mpr ⟨List.mem_of_getElem? (i := 1278) (by decide +kernel), rfl⟩
theorem w_1179 : Cond.methodLink RL 21 yX11_removeEdge ∈ zgw := List.mem_filter.mpr ⟨List.mem_of_getElem? (i := 1279) (by decide +kernel), rfl⟩
theorem wm_yX11_removeEdge : Cond.instanceMethod yX11_removeEdge ∈ zgw := List.mem_filter.mpr ⟨List.mem_of_getElem? (i := 1280) (by decide +kernel), rfl⟩
theorem ws_yX11_removeEdge : Cond.selects RX11 yX11_removeEdge yX11_removeEdge ∈ zgw := List.mem_filter.mpr ⟨List.mem_of_getElem? (i := 1281) (by decide +kernel), rfl⟩
theorem wc_yX11_removeEdge : Cond.code yX11_removeEdge cX11_removeEdge 5 (some (.int)) ∈ zgw := List.mem_filter.mpr ⟨List.mem_of_getElem? (i := 1282) (by decide +kernel), rfl⟩
theorem w_1183 : Cond.methodLink RX11 152 yX11_to ∈ zgw := List.mem_filter.mpr ⟨List.mem_of_getElem? (i := 1283) (by decide +kernel), rfl⟩
theorem wm_yX11_to : Cond.instanceMethod yX11_to ∈ zgw := List.mem_filter.mpr ⟨List.mem_of_getElem? (i := 1285) (by decide +kernel), rfl⟩
theorem wc_yX11_to : Cond.code yX11_to cX11_to 4 (some (.int)) ∈ zgw := List.mem_filter.mpr ⟨List.mem_of_getElem? (i := 1286) (by decide +kernel), rfl⟩
theorem w_1187 : Cond.methodLink RL 26 yX11_targets ∈ zgw := List.mem_filter.mpr ⟨List.mem_of_getElem? (i := 1287) (by decide +kernel), rfl⟩
theorem wm_yX11_targets : Cond.instanceMethod yX11_targets ∈ zgw := List.mem_filter.mpr ⟨List.mem_of_getElem? (i := 1288) (by decide +kernel), rfl⟩
theorem ws_yX11_targets : Cond.selects RX11 yX11_targets yX11_targets ∈ zgw := List.mem_filter.mpr ⟨List.mem_of_getElem? (i := 1289) (by decide +kernel), rfl⟩
theorem wc_yX11_targets : Cond.code yX11_targets cX11_targets 4 (some (.int)) ∈ zgw := List.mem_filter.mpr ⟨List.mem_of_getElem? (i := 1290) (by decide +kernel), rfl⟩
theorem w_1191 : Cond.methodLink RL 31 yX11_edges ∈ zgw := List.mem_filter.mpr ⟨List.mem_of_getElem? (i := 1291) (by decide +kernel), rfl⟩
theorem wm_yX11_edges : Cond.instanceMethod yX11_edges ∈ zgw := List.mem_filter.mpr ⟨List.mem_of_getElem? (i := 1292) (by decide +kernel), rfl⟩
theorem ws_yX11_edges : Cond.selects RX11 yX11_edges yX11_edges ∈ zgw := List.mem_filter.mpr ⟨List.mem_of_getElem? (i := 1293) (by decide +kernel), rfl⟩
theorem wc_yX11_edges : Cond.code yX11_edges cX11_edges 2 (some (.int)) ∈ zgw := List.mem_filter.mpr ⟨List.mem_of_getElem? (i := 1294) (by decide +kernel), rfl⟩
theorem w_1195 : Cond.methodLink RL 35 yX11_feed ∈ zgw := List.mem_filter.mpr ⟨List.mem_of_getElem? (i := 1295) (by decide +kernel), rfl⟩
theorem wm_yX11_feed : Cond.instanceMethod yX11_feed ∈ zgw := List.mem_filter.mpr ⟨List.mem_of_getElem? (i := 1296) (by decide +kernel), rfl⟩
theorem ws_yX11_feed : Cond.selects RX11 yX11_feed yX11_feed ∈ zgw := List.mem_filter.mpr ⟨List.mem_of_getElem? (i := 1297) (by decide +kernel), rfl⟩
theorem wc_yX11_feed : Cond.code yX11_feed cX11_feed 2 (some (.int)) ∈ zgw := List.mem_filter.mpr ⟨List.mem_of_getElem? (i := 1298) (by decide +kernel), rfl⟩
theorem w_1199 : Cond.methodLink RL 39 yX11_parse ∈ zgw := List.mem_filter.mpr ⟨List.mem_of_getElem? (i := 1299) (by decide +kernel), rfl⟩
theorem wm_yX11_parse : Cond.instanceMethod yX11_parse ∈ zgw := List.mem_filter.mpr ⟨List.mem_of_getElem? (i := 1300) (by decide +kernel), rfl⟩
theorem ws_yX11_parse : Cond.selects RX11 yX11_parse yX11_parse ∈ zgw := List.mem_filter.mpr ⟨List.mem_of_getElem? (i := 1301) (by decide +kernel), rfl⟩
theorem wc_yX11_parse : Cond.code yX11_parse cX11_parse 4 (some (.int)) ∈ zgw := List.mem_filter.mpr ⟨List.mem_of_getElem? (i := 1302) (by decide +kernel), rfl⟩
theorem w_1203 : Cond.methodLink RX11 159 yX11_clearMade ∈ zgw := List.mem_filter.mpr ⟨List.mem_of_getElem? (i := 1303) (by decide +kernel), rfl⟩
theorem wm_yX11_clearMade : Cond.instanceMethod yX11_clearMade ∈ zgw := List.mem_filter.mpr ⟨List.mem_of_getElem? (i := 1305) (by decide +kernel), rfl⟩
theorem wc_yX11_clearMade : Cond.code yX11_clearMade cX11_clearMade 2 none ∈ zgw := List.mem_filter.mpr ⟨List.mem_of_getElem? (i := 1306) (by decide +kernel), rfl⟩
theorem w_1207 : Cond.methodLink RX11 162 yX11_stands ∈ zgw := List.mem_filter.mpr ⟨List.mem_of_getElem? (i := 1307) (by decide +kernel), rfl⟩
theorem wt_yX11_stands : Cond.static yX11_stands ∈ zgw := List.mem_filter.mpr ⟨List.mem_of_getElem? (i := 1308) (by decide +kernel), rfl⟩
theorem wc_yX11_stands : Cond.code yX11_stands cX11_stands 2 (some (.boolean)) ∈ zgw := List.mem_filter.mpr ⟨List.mem_of_getElem? (i := 1309) (by decide +kernel), rfl⟩
theorem w_1210 : Cond.methodLink RL 43 yX11_random ∈ zgw := List.mem_filter.mpr ⟨List.mem_of_getElem? (i := 1310) (by decide +kernel), rfl⟩
theorem wm_yX11_random : Cond.instanceMethod yX11_random ∈ zgw := List.mem_filter.mpr ⟨List.mem_of_getElem? (i := 1311) (by decide +kernel), rfl⟩
theorem ws_yX11_random : Cond.selects RX11 yX11_random yX11_random ∈ zgw := List.mem_filter.mpr ⟨List.mem_of_getElem? (i := 1312) (by decide +kernel), rfl⟩
theorem wc_yX11_random : Cond.code yX11_random cX11_random 8 (some (.int)) ∈ zgw := List.mem_filter.mpr ⟨List.mem_of_getElem? (i := 1313) (by decide +kernel), rfl⟩
theorem w_1214 : Cond.constant RX11 166 (1103515245) ∈ zgw := List.mem_filter.mpr ⟨List.mem_of_getElem? (i := 1314) (by decide +kernel), rfl⟩
theorem w_1215 : Cond.methodLink RL 145 yX11_output ∈ zgw := List.mem_filter.mpr ⟨List.mem_of_getElem? (i := 1315) (by decide +kernel), rfl⟩
theorem wm_yX11_output : Cond.instanceMethod yX11_output ∈ zgw := List.mem_filter.mpr ⟨List.mem_of_getElem? (i := 1316) (by decide +kernel), rfl⟩
theorem ws_yX11_output : Cond.selects RX11 yX11_output yX11_output ∈ zgw := List.mem_filter.mpr ⟨List.mem_of_getElem? (i := 1317) (by decide +kernel), rfl⟩
theorem wc_yX11_output : Cond.code yX11_output cX11_output 2 (some (.int)) ∈ zgw := List.mem_filter.mpr ⟨List.mem_of_getElem? (i := 1318) (by decide +kernel), rfl⟩
theorem w_1219 : Cond.methodLink RL 141 yX11_writeGraph ∈ zgw := List.mem_filter.mpr ⟨List.mem_of_getElem? (i := 1319) (by decide +kernel), rfl⟩
theorem wm_yX11_writeGraph : Cond.instanceMethod yX11_writeGraph ∈ zgw := List.mem_filter.mpr ⟨List.mem_of_getElem? (i := 1320) (by decide +kernel), rfl⟩
theorem ws_yX11_writeGraph : Cond.selects RX11 yX11_writeGraph yX11_writeGraph ∈ zgw := List.mem_filter.mpr ⟨List.mem_of_getElem? (i := 1321) (by decide +kernel), rfl⟩
theorem wc_yX11_writeGraph : Cond.code yX11_writeGraph cX11_writeGraph 5 (some (.int)) ∈ zgw := List.mem_filter.mpr ⟨List.mem_of_getElem? (i := 1322) (by decide +kernel), rfl⟩
theorem w_1223 : Cond.methodLink RX11 173 yX11_sign ∈ zgw := List.mem_filter.mpr ⟨List.mem_of_getElem? (i := 1323) (by decide +kernel), rfl⟩
theorem wm_yX11_sign : Cond.instanceMethod yX11_sign ∈ zgw := List.mem_filter.mpr ⟨List.mem_of_getElem? (i := 1325) (by decide +kernel), rfl⟩
theorem wc_yX11_sign : Cond.code yX11_sign cX11_sign 2 none ∈ zgw := List.mem_filter.mpr ⟨List.mem_of_getElem? (i := 1326) (by decide +kernel), rfl⟩
theorem w_1227 : Cond.methodLink RL 47 yX11_essential ∈ zgw := List.mem_filter.mpr ⟨List.mem_of_getElem? (i := 1327) (by decide +kernel), rfl⟩
theorem wm_yX11_essential : Cond.instanceMethod yX11_essential ∈ zgw := List.mem_filter.mpr ⟨List.mem_of_getElem? (i := 1328) (by decide +kernel), rfl⟩
theorem ws_yX11_essential : Cond.selects RX11 yX11_essential yX11_essential ∈ zgw := List.mem_filter.mpr ⟨List.mem_of_getElem? (i := 1329) (by decide +kernel), rfl⟩
theorem wc_yX11_essential : Cond.code yX11_essential cX11_essential 2 (some (.int)) ∈ zgw := List.mem_filter.mpr ⟨List.mem_of_getElem? (i := 1330) (by decide +kernel), rfl⟩
theorem w_1231 : Cond.methodLink RX11 180 yX11_essentialOf ∈ zgw := List.mem_filter.mpr ⟨List.mem_of_getElem? (i := 1331) (by decide +kernel), rfl⟩
theorem wm_yX11_essentialOf : Cond.instanceMethod yX11_essentialOf ∈ zgw := List.mem_filter.mpr ⟨List.mem_of_getElem? (i := 1333) (by decide +kernel), rfl⟩
theorem wc_yX11_essentialOf : Cond.code yX11_essentialOf cX11_essentialOf 7 (some (.int)) ∈ zgw := List.mem_filter.mpr ⟨List.mem_of_getElem? (i := 1334) (by decide +kernel), rfl⟩
theorem w_1235 : Cond.methodLink RX11 176 yX11_unionOf ∈ zgw := List.mem_filter.mpr ⟨List.mem_of_getElem? (i := 1335) (by decide +kernel), rfl⟩
theorem wm_yX11_unionOf : Cond.instanceMethod yX11_unionOf ∈ zgw := List.mem_filter.mpr ⟨List.mem_of_getElem? (i := 1337) (by decide +kernel), rfl⟩
theorem wc_yX11_unionOf : Cond.code yX11_unionOf cX11_unionOf 3 (some (.int)) ∈ zgw := List.mem_filter.mpr ⟨List.mem_of_getElem? (i := 1338) (by decide +kernel), rfl⟩
theorem w_1239 : Cond.methodLink RL 51 yX11_isIrreducible ∈ zgw := List.mem_filter.mpr ⟨List.mem_of_getElem? (i := 1339) (by decide +kernel), rfl⟩
theorem wm_yX11_isIrreducible : Cond.instanceMethod yX11_isIrreducible ∈ zgw := List.mem_filter.mpr ⟨List.mem_of_getElem? (i := 1340) (by decide +kernel), rfl⟩
theorem ws_yX11_isIrreducible : Cond.selects RX11 yX11_isIrreducible yX11_isIrreducible ∈ zgw := List.mem_filter.mpr ⟨List.mem_of_getElem? (i := 1341) (by decide +kernel), rfl⟩
theorem wc_yX11_isIrreducible : Cond.code yX11_isIrreducible cX11_isIrreducible 2 (some (.int)) ∈ zgw := List.mem_filter.mpr ⟨List.mem_of_getElem? (i := 1342) (by decide +kernel), rfl⟩
theorem w_1243 : Cond.methodLink RX11 186 yX11_isWhole ∈ zgw := List.mem_filter.mpr ⟨List.mem_of_getElem? (i := 1343) (by decide +kernel), rfl⟩
theorem wm_yX11_isWhole : Cond.instanceMethod yX11_isWhole ∈ zgw := List.mem_filter.mpr ⟨List.mem_of_getElem? (i := 1345) (by decide +kernel), rfl⟩
theorem wc_yX11_isWhole : Cond.code yX11_isWhole cX11_isWhole 6 (some (.boolean)) ∈ zgw := List.mem_filter.mpr ⟨List.mem_of_getElem? (i := 1346) (by decide +kernel), rfl⟩
theorem w_1247 : Cond.methodLink RX11 183 yX11_step ∈ zgw := List.mem_filter.mpr ⟨List.mem_of_getElem? (i := 1347) (by decide +kernel), rfl⟩
theorem wm_yX11_step : Cond.instanceMethod yX11_step ∈ zgw := List.mem_filter.mpr ⟨List.mem_of_getElem? (i := 1349) (by decide +kernel), rfl⟩
theorem wc_yX11_step : Cond.code yX11_step cX11_step 6 (some (.int)) ∈ zgw := List.mem_filter.mpr ⟨List.mem_of_getElem? (i := 1350) (by decide +kernel), rfl⟩
theorem w_1251 : Cond.methodLink RL 55 yX11_period ∈ zgw := List.mem_filter.mpr ⟨List.mem_of_getElem? (i := 1351) (by decide +kernel), rfl⟩
theorem wm_yX11_period : Cond.instanceMethod yX11_period ∈ zgw := List.mem_filter.mpr ⟨List.mem_of_getElem? (i := 1352) (by decide +kernel), rfl⟩
theorem ws_yX11_period : Cond.selects RX11 yX11_period yX11_period ∈ zgw := List.mem_filter.mpr ⟨List.mem_of_getElem? (i := 1353) (by decide +kernel), rfl⟩
theorem wc_yX11_period : Cond.code yX11_period cX11_period 8 (some (.int)) ∈ zgw := List.mem_filter.mpr ⟨List.mem_of_getElem? (i := 1354) (by decide +kernel), rfl⟩
theorem w_1255 : Cond.methodLink RX11 189 yX11_gcd ∈ zgw := List.mem_filter.mpr ⟨List.mem_of_getElem? (i := 1355) (by decide +kernel), rfl⟩
theorem wt_yX11_gcd : Cond.static yX11_gcd ∈ zgw := List.mem_filter.mpr ⟨List.mem_of_getElem? (i := 1356) (by decide +kernel), rfl⟩
theorem wc_yX11_gcd : Cond.code yX11_gcd cX11_gcd 10 (some (.long)) ∈ zgw := List.mem_filter.mpr ⟨List.mem_of_getElem? (i := 1357) (by decide +kernel), rfl⟩
theorem w_1258 : Cond.methodLink RL 60 yX11_words ∈ zgw := List.mem_filter.mpr ⟨List.mem_of_getElem? (i := 1358) (by decide +kernel), rfl⟩
theorem wm_yX11_words : Cond.instanceMethod yX11_words ∈ zgw := List.mem_filter.mpr ⟨List.mem_of_getElem? (i := 1359) (by decide +kernel), rfl⟩
theorem ws_yX11_words : Cond.selects RX11 yX11_words yX11_words ∈ zgw := List.mem_filter.mpr ⟨List.mem_of_getElem? (i := 1360) (by decide +kernel), rfl⟩
theorem wc_yX11_words : Cond.code yX11_words cX11_words 3 (some (.long)) ∈ zgw := List.mem_filter.mpr ⟨List.mem_of_getElem? (i := 1361) (by decide +kernel), rfl⟩
theorem w_1262 : Cond.constantLong RX11 199 (-2) ∈ zgw := List.mem_filter.mpr ⟨List.mem_of_getElem? (i := 1362) (by decide +kernel), rfl⟩
theorem w_1263 : Cond.methodLink RX11 201 yX11_prepare ∈ zgw := List.mem_filter.mpr ⟨List.mem_of_getElem? (i := 1363) (by decide +kernel), rfl⟩
theorem wm_yX11_prepare : Cond.instanceMethod yX11_prepare ∈ zgw := List.mem_filter.mpr ⟨List.mem_of_getElem? (i := 1365) (by decide +kernel), rfl⟩
theorem wc_yX11_prepare : Cond.code yX11_prepare cX11_prepare 4 none ∈ zgw := List.mem_filter.mpr ⟨List.mem_of_getElem? (i := 1366) (by decide +kernel), rfl⟩
theorem w_1267 : Cond.methodLink RX11 196 yX11_image ∈ zgw := List.mem_filter.mpr ⟨List.mem_of_getElem? (i := 1367) (by decide +kernel), rfl⟩
theorem wm_yX11_image : Cond.instanceMethod yX11_image ∈ zgw := List.mem_filter.mpr ⟨List.mem_of_getElem? (i := 1369) (by decide +kernel), rfl⟩
theorem wc_yX11_image : Cond.code yX11_image cX11_image 6 (some (.int)) ∈ zgw := List.mem_filter.mpr ⟨List.mem_of_getElem? (i := 1370) (by decide +kernel), rfl⟩
theorem w_1271 : Cond.methodLink RX11 204 yX11_countTo ∈ zgw := List.mem_filter.mpr ⟨List.mem_of_getElem? (i := 1371) (by decide +kernel), rfl⟩
theorem wm_yX11_countTo : Cond.instanceMethod yX11_countTo ∈ zgw := List.mem_filter.mpr ⟨List.mem_of_getElem? (i := 1373) (by decide +kernel), rfl⟩
theorem wc_yX11_countTo : Cond.code yX11_countTo cX11_countTo 7 none ∈ zgw := List.mem_filter.mpr ⟨List.mem_of_getElem? (i := 1374) (by decide +kernel), rfl⟩
theorem w_1275 : Cond.methodLink RL 65 yX11_growth ∈ zgw := List.mem_filter.mpr ⟨List.mem_of_getElem? (i := 1375) (by decide +kernel), rfl⟩
theorem wm_yX11_growth : Cond.instanceMethod yX11_growth ∈ zgw := List.mem_filter.mpr ⟨List.mem_of_getElem? (i := 1376) (by decide +kernel), rfl⟩
theorem ws_yX11_growth : Cond.selects RX11 yX11_growth yX11_growth ∈ zgw := List.mem_filter.mpr ⟨List.mem_of_getElem? (i := 1377) (by decide +kernel), rfl⟩
theorem wc_yX11_growth : Cond.code yX11_growth cX11_growth 8 (some (.long)) ∈ zgw := List.mem_filter.mpr ⟨List.mem_of_getElem? (i := 1378) (by decide +kernel), rfl⟩
theorem w_1279 : Cond.methodLink RL 69 yX11_allows ∈ zgw := List.mem_filter.mpr ⟨List.mem_of_getElem? (i := 1379) (by decide +kernel), rfl⟩
theorem wm_yX11_allows : Cond.instanceMethod yX11_allows ∈ zgw := List.mem_filter.mpr ⟨List.mem_of_getElem? (i := 1380) (by decide +kernel), rfl⟩
theorem ws_yX11_allows : Cond.selects RX11 yX11_allows yX11_allows ∈ zgw := List.mem_filter.mpr ⟨List.mem_of_getElem? (i := 1381) (by decide +kernel), rfl⟩
theorem wc_yX11_allows : Cond.code yX11_allows cX11_allows 3 (some (.int)) ∈ zgw := List.mem_filter.mpr ⟨List.mem_of_getElem? (i := 1382) (by decide +kernel), rfl⟩
theorem w_1283 : Cond.methodLink RX11 207 yX11_readWord ∈ zgw := List.mem_filter.mpr ⟨List.mem_of_getElem? (i := 1383) (by decide +kernel), rfl⟩
theorem wm_yX11_readWord : Cond.instanceMethod yX11_readWord ∈ zgw := List.mem_filter.mpr ⟨List.mem_of_getElem? (i := 1385) (by decide +kernel), rfl⟩
theorem wc_yX11_readWord : Cond.code yX11_readWord cX11_readWord 2 (some (.int)) ∈ zgw := List.mem_filter.mpr ⟨List.mem_of_getElem? (i := 1386) (by decide +kernel), rfl⟩
theorem w_1287 : Cond.methodLink RX11 211 yX11_behind ∈ zgw := List.mem_filter.mpr ⟨List.mem_of_getElem? (i := 1387) (by decide +kernel), rfl⟩
theorem wm_yX11_behind : Cond.instanceMethod yX11_behind ∈ zgw := List.mem_filter.mpr ⟨List.mem_of_getElem? (i := 1389) (by decide +kernel), rfl⟩
theorem wc_yX11_behind : Cond.code yX11_behind cX11_behind 6 (some (.int)) ∈ zgw := List.mem_filter.mpr ⟨List.mem_of_getElem? (i := 1390) (by decide +kernel), rfl⟩
theorem w_1291 : Cond.methodLink RL 76 yX11_writeWord ∈ zgw := List.mem_filter.mpr ⟨List.mem_of_getElem? (i := 1391) (by decide +kernel), rfl⟩
theorem wm_yX11_writeWord : Cond.instanceMethod yX11_writeWord ∈ zgw := List.mem_filter.mpr ⟨List.mem_of_getElem? (i := 1392) (by decide +kernel), rfl⟩
theorem ws_yX11_writeWord : Cond.selects RX11 yX11_writeWord yX11_writeWord ∈ zgw := List.mem_filter.mpr ⟨List.mem_of_getElem? (i := 1393) (by decide +kernel), rfl⟩
theorem wc_yX11_writeWord : Cond.code yX11_writeWord cX11_writeWord 12 (some (.int)) ∈ zgw := List.mem_filter.mpr ⟨List.mem_of_getElem? (i := 1394) (by decide +kernel), rfl⟩
theorem w_1295 : Cond.methodLink RX11 214 yX11_writeOut ∈ zgw := List.mem_filter.mpr ⟨List.mem_of_getElem? (i := 1395) (by decide +kernel), rfl⟩
theorem wm_yX11_writeOut : Cond.instanceMethod yX11_writeOut ∈ zgw := List.mem_filter.mpr ⟨List.mem_of_getElem? (i := 1397) (by decide +kernel), rfl⟩
theorem wc_yX11_writeOut : Cond.code yX11_writeOut cX11_writeOut 2 (some (.int)) ∈ zgw := List.mem_filter.mpr ⟨List.mem_of_getElem? (i := 1398) (by decide +kernel), rfl⟩
theorem w_1299 : Cond.methodLink RL 81 yX11_forbidden ∈ zgw := List.mem_filter.mpr ⟨List.mem_of_getElem? (i := 1399) (by decide +kernel), rfl⟩
theorem wm_yX11_forbidden : Cond.instanceMethod yX11_forbidden ∈ zgw := List.mem_filter.mpr ⟨List.mem_of_getElem? (i := 1400) (by decide +kernel), rfl⟩
theorem ws_yX11_forbidden : Cond.selects RX11 yX11_forbidden yX11_forbidden ∈ zgw := List.mem_filter.mpr ⟨List.mem_of_getElem? (i := 1401) (by decide +kernel), rfl⟩
theorem wc_yX11_forbidden : Cond.code yX11_forbidden cX11_forbidden 5 (some (.int)) ∈ zgw := List.mem_filter.mpr ⟨List.mem_of_getElem? (i := 1402) (by decide +kernel), rfl⟩
theorem w_1303 : Cond.methodLink RX11 217 yX11_spell ∈ zgw := List.mem_filter.mpr ⟨List.mem_of_getElem? (i := 1403) (by decide +kernel), rfl⟩
theorem wm_yX11_spell : Cond.instanceMethod yX11_spell ∈ zgw := List.mem_filter.mpr ⟨List.mem_of_getElem? (i := 1405) (by decide +kernel), rfl⟩
theorem wc_yX11_spell : Cond.code yX11_spell cX11_spell 4 none ∈ zgw := List.mem_filter.mpr ⟨List.mem_of_getElem? (i := 1406) (by decide +kernel), rfl⟩
theorem w_1307 : Cond.methodLink RX11 221 yX11_isForbidden ∈ zgw := List.mem_filter.mpr ⟨List.mem_of_getElem? (i := 1407) (by decide +kernel), rfl⟩
theorem wm_yX11_isForbidden : Cond.instanceMethod yX11_isForbidden ∈ zgw := List.mem_filter.mpr ⟨List.mem_of_getElem? (i := 1409) (by decide +kernel), rfl⟩
theorem wc_yX11_isForbidden : Cond.code yX11_isForbidden cX11_isForbidden 1 (some (.boolean)) ∈ zgw := List.mem_filter.mpr ⟨List.mem_of_getElem? (i := 1410) (by decide +kernel), rfl⟩
theorem w_1311 : Cond.methodLink RL 85 yX11_writeForbidden ∈ zgw := List.mem_filter.mpr ⟨List.mem_of_getElem? (i := 1411) (by decide +kernel), rfl⟩
theorem wm_yX11_writeForbidden : Cond.instanceMethod yX11_writeForbidden ∈ zgw := List.mem_filter.mpr ⟨List.mem_of_getElem? (i := 1412) (by decide +kernel), rfl⟩
theorem ws_yX11_writeForbidden : Cond.selects RX11 yX11_writeForbidden yX11_writeForbidden ∈ zgw := List.mem_filter.mpr ⟨List.mem_of_getElem? (i := 1413) (by decide +kernel), rfl⟩
theorem wc_yX11_writeForbidden : Cond.code yX11_writeForbidden cX11_writeForbidden 6 (some (.int)) ∈ zgw := List.mem_filter.mpr ⟨List.mem_of_getElem? (i := 1414) (by decide +kernel), rfl⟩
theorem w_1315 : Cond.methodLink RL 89 yX11_periodic ∈ zgw := List.mem_filter.mpr ⟨List.mem_of_getElem? (i := 1415) (by decide +kernel), rfl⟩
theorem wm_yX11_periodic : Cond.instanceMethod yX11_periodic ∈ zgw := List.mem_filter.mpr ⟨List.mem_of_getElem? (i := 1416) (by decide +kernel), rfl⟩
theorem ws_yX11_periodic : Cond.selects RX11 yX11_periodic yX11_periodic ∈ zgw := List.mem_filter.mpr ⟨List.mem_of_getElem? (i := 1417) (by decide +kernel), rfl⟩
theorem wc_yX11_periodic : Cond.code yX11_periodic cX11_periodic 3 (some (.int)) ∈ zgw := List.mem_filter.mpr ⟨List.mem_of_getElem? (i := 1418) (by decide +kernel), rfl⟩
