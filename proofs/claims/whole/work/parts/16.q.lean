theorem mfL_append : mfL yL_append cL_append 8 [(0, 16, 19, 13)] 7 := ⟨in_tg 813 (by decide +kernel) rfl, in_tg 122 (by decide +kernel) rfl, in_tg 814 (by decide +kernel) rfl, by decide +kernel, by decide +kernel, by decide +kernel⟩
theorem lk_L_124 : Cond.methodLink RL 124 yL_append ∈ lw_tg := in_tg 812 (by decide +kernel) rfl
theorem mf_X9_append : mfV yX9_append cX9_append 6 (some .int) 5 := ⟨in_tg 1386 (by decide +kernel) rfl, in_tg 1387 (by decide +kernel) rfl, in_tg 132 (by decide +kernel) rfl, in_tg 1388 (by decide +kernel) rfl, by decide +kernel, by decide +kernel, by decide +kernel⟩
theorem lk_L_129 : Cond.methodLink RL 129 yX9_append ∈ lw_tg := in_tg 1385 (by decide +kernel) rfl
theorem mf_X9_thrown : mfV yX9_thrown cX9_thrown 1 (some .int) 0 := ⟨in_tg 1268 (by decide +kernel) rfl, in_tg 1269 (by decide +kernel) rfl, in_tg 132 (by decide +kernel) rfl, in_tg 1270 (by decide +kernel) rfl, by decide +kernel, by decide +kernel, by decide +kernel⟩
theorem lk_L_130 : Cond.methodLink RL 130 yX9_thrown ∈ lw_tg := in_tg 1267 (by decide +kernel) rfl
theorem mfL_truncate : mfL yL_truncate cL_truncate 3 [(0, 5, 8, 19)] 2 := ⟨in_tg 894 (by decide +kernel) rfl, in_tg 122 (by decide +kernel) rfl, in_tg 895 (by decide +kernel) rfl, by decide +kernel, by decide +kernel, by decide +kernel⟩
theorem lk_L_133 : Cond.methodLink RL 133 yL_truncate ∈ lw_tg := in_tg 893 (by decide +kernel) rfl
theorem mf_X9_truncate : mfV yX9_truncate cX9_truncate 2 none 1 := ⟨in_tg 1402 (by decide +kernel) rfl, in_tg 1403 (by decide +kernel) rfl, in_tg 132 (by decide +kernel) rfl, in_tg 1404 (by decide +kernel) rfl, by decide +kernel, by decide +kernel, by decide +kernel⟩
theorem lk_L_136 : Cond.methodLink RL 136 yX9_truncate ∈ lw_tg := in_tg 1401 (by decide +kernel) rfl
theorem mf_X8_load : mfV yX8_load cX8_load 2 (some .int) 0 := ⟨in_tg 431 (by decide +kernel) rfl, in_tg 432 (by decide +kernel) rfl, in_tg 123 (by decide +kernel) rfl, in_tg 433 (by decide +kernel) rfl, by decide +kernel, by decide +kernel, by decide +kernel⟩
theorem lk_L_137 : Cond.methodLink RL 137 yX8_load ∈ lw_tg := in_tg 430 (by decide +kernel) rfl
theorem mf_X9_load : mfV yX9_load cX9_load 1 (some .int) 0 := ⟨in_tg 1409 (by decide +kernel) rfl, in_tg 1410 (by decide +kernel) rfl, in_tg 132 (by decide +kernel) rfl, in_tg 1411 (by decide +kernel) rfl, by decide +kernel, by decide +kernel, by decide +kernel⟩
theorem lk_L_140 : Cond.methodLink RL 140 yX9_load ∈ lw_tg := in_tg 1408 (by decide +kernel) rfl
theorem mf_X8_errorCode : mfV yX8_errorCode cX8_errorCode 1 (some .int) 0 := ⟨in_tg 686 (by decide +kernel) rfl, in_tg 687 (by decide +kernel) rfl, in_tg 123 (by decide +kernel) rfl, in_tg 688 (by decide +kernel) rfl, by decide +kernel, by decide +kernel, by decide +kernel⟩
theorem lk_L_141 : Cond.methodLink RL 141 yX8_errorCode ∈ lw_tg := in_tg 685 (by decide +kernel) rfl
theorem mf_X9_errorCode : mfV yX9_errorCode cX9_errorCode 1 (some .int) 0 := ⟨in_tg 1599 (by decide +kernel) rfl, in_tg 1600 (by decide +kernel) rfl, in_tg 132 (by decide +kernel) rfl, in_tg 1601 (by decide +kernel) rfl, by decide +kernel, by decide +kernel, by decide +kernel⟩
theorem lk_L_144 : Cond.methodLink RL 144 yX9_errorCode ∈ lw_tg := in_tg 1598 (by decide +kernel) rfl
theorem mf_X8_errorPosition : mfV yX8_errorPosition cX8_errorPosition 1 (some .int) 0 := ⟨in_tg 690 (by decide +kernel) rfl, in_tg 691 (by decide +kernel) rfl, in_tg 123 (by decide +kernel) rfl, in_tg 692 (by decide +kernel) rfl, by decide +kernel, by decide +kernel, by decide +kernel⟩
theorem lk_L_145 : Cond.methodLink RL 145 yX8_errorPosition ∈ lw_tg := in_tg 689 (by decide +kernel) rfl
theorem mf_X9_errorPosition : mfV yX9_errorPosition cX9_errorPosition 1 (some .int) 0 := ⟨in_tg 1603 (by decide +kernel) rfl, in_tg 1604 (by decide +kernel) rfl, in_tg 132 (by decide +kernel) rfl, in_tg 1605 (by decide +kernel) rfl, by decide +kernel, by decide +kernel, by decide +kernel⟩
theorem lk_L_148 : Cond.methodLink RL 148 yX9_errorPosition ∈ lw_tg := in_tg 1602 (by decide +kernel) rfl
theorem mfL_property : mfL yL_property cL_property 4 [(0, 9, 12, 19)] 3 := ⟨in_tg 917 (by decide +kernel) rfl, in_tg 122 (by decide +kernel) rfl, in_tg 918 (by decide +kernel) rfl, by decide +kernel, by decide +kernel, by decide +kernel⟩
theorem lk_L_149 : Cond.methodLink RL 149 yL_property ∈ lw_tg := in_tg 916 (by decide +kernel) rfl
theorem mf_X9_property : mfV yX9_property cX9_property 3 (some .int) 1 := ⟨in_tg 1607 (by decide +kernel) rfl, in_tg 1608 (by decide +kernel) rfl, in_tg 132 (by decide +kernel) rfl, in_tg 1609 (by decide +kernel) rfl, by decide +kernel, by decide +kernel, by decide +kernel⟩
theorem lk_L_152 : Cond.methodLink RL 152 yX9_property ∈ lw_tg := in_tg 1606 (by decide +kernel) rfl
theorem mfL_part : mfL yL_part cL_part 5 [(0, 10, 13, 29), (0, 10, 17, 19)] 4 := ⟨in_tg 924 (by decide +kernel) rfl, in_tg 122 (by decide +kernel) rfl, in_tg 925 (by decide +kernel) rfl, by decide +kernel, by decide +kernel, by decide +kernel⟩
theorem lk_L_153 : Cond.methodLink RL 153 yL_part ∈ lw_tg := in_tg 923 (by decide +kernel) rfl
theorem mf_X9_part : mfV yX9_part cX9_part 6 (some .int) 2 := ⟨in_tg 1620 (by decide +kernel) rfl, in_tg 1621 (by decide +kernel) rfl, in_tg 132 (by decide +kernel) rfl, in_tg 1622 (by decide +kernel) rfl, by decide +kernel, by decide +kernel, by decide +kernel⟩
theorem lk_L_156 : Cond.methodLink RL 156 yX9_part ∈ lw_tg := in_tg 1619 (by decide +kernel) rfl
theorem mfL_word : mfL yL_word cL_word 5 [(0, 10, 13, 29), (0, 10, 17, 19)] 4 := ⟨in_tg 956 (by decide +kernel) rfl, in_tg 122 (by decide +kernel) rfl, in_tg 957 (by decide +kernel) rfl, by decide +kernel, by decide +kernel, by decide +kernel⟩
theorem lk_L_157 : Cond.methodLink RL 157 yL_word ∈ lw_tg := in_tg 955 (by decide +kernel) rfl
theorem mf_X9_word : mfV yX9_word cX9_word 4 (some .int) 2 := ⟨in_tg 1634 (by decide +kernel) rfl, in_tg 1635 (by decide +kernel) rfl, in_tg 132 (by decide +kernel) rfl, in_tg 1636 (by decide +kernel) rfl, by decide +kernel, by decide +kernel, by decide +kernel⟩
theorem lk_L_159 : Cond.methodLink RL 159 yX9_word ∈ lw_tg := in_tg 1633 (by decide +kernel) rfl
theorem mfL_letter : mfL yL_letter cL_letter 5 [(0, 10, 13, 29)] 4 := ⟨in_tg 983 (by decide +kernel) rfl, in_tg 122 (by decide +kernel) rfl, in_tg 984 (by decide +kernel) rfl, by decide +kernel, by decide +kernel, by decide +kernel⟩
theorem lk_L_160 : Cond.methodLink RL 160 yL_letter ∈ lw_tg := in_tg 982 (by decide +kernel) rfl
theorem mf_X9_letter : mfV yX9_letter cX9_letter 4 (some .int) 2 := ⟨in_tg 1669 (by decide +kernel) rfl, in_tg 1670 (by decide +kernel) rfl, in_tg 132 (by decide +kernel) rfl, in_tg 1671 (by decide +kernel) rfl, by decide +kernel, by decide +kernel, by decide +kernel⟩
theorem lk_L_162 : Cond.methodLink RL 162 yX9_letter ∈ lw_tg := in_tg 1668 (by decide +kernel) rfl
theorem mfL_cell : mfL yL_cell cL_cell 5 [(0, 10, 13, 29)] 4 := ⟨in_tg 991 (by decide +kernel) rfl, in_tg 122 (by decide +kernel) rfl, in_tg 992 (by decide +kernel) rfl, by decide +kernel, by decide +kernel, by decide +kernel⟩
theorem lk_L_163 : Cond.methodLink RL 163 yL_cell ∈ lw_tg := in_tg 990 (by decide +kernel) rfl
theorem mf_X9_cell : mfV yX9_cell cX9_cell 5 (some .int) 2 := ⟨in_tg 1673 (by decide +kernel) rfl, in_tg 1674 (by decide +kernel) rfl, in_tg 132 (by decide +kernel) rfl, in_tg 1675 (by decide +kernel) rfl, by decide +kernel, by decide +kernel, by decide +kernel⟩
theorem lk_L_165 : Cond.methodLink RL 165 yX9_cell ∈ lw_tg := in_tg 1672 (by decide +kernel) rfl
theorem mfL_wordAt : mfL yL_wordAt cL_wordAt 5 [(0, 10, 13, 29)] 4 := ⟨in_tg 1006 (by decide +kernel) rfl, in_tg 122 (by decide +kernel) rfl, in_tg 1007 (by decide +kernel) rfl, by decide +kernel, by decide +kernel, by decide +kernel⟩
theorem lk_L_166 : Cond.methodLink RL 166 yL_wordAt ∈ lw_tg := in_tg 1005 (by decide +kernel) rfl
theorem mf_X9_wordAt : mfV yX9_wordAt cX9_wordAt 4 (some .int) 2 := ⟨in_tg 1681 (by decide +kernel) rfl, in_tg 1682 (by decide +kernel) rfl, in_tg 132 (by decide +kernel) rfl, in_tg 1683 (by decide +kernel) rfl, by decide +kernel, by decide +kernel, by decide +kernel⟩
theorem lk_L_168 : Cond.methodLink RL 168 yX9_wordAt ∈ lw_tg := in_tg 1680 (by decide +kernel) rfl
theorem mfL_freeIn : mfL yL_freeIn cL_freeIn 4 [(0, 9, 12, 29)] 3 := ⟨in_tg 1013 (by decide +kernel) rfl, in_tg 122 (by decide +kernel) rfl, in_tg 1014 (by decide +kernel) rfl, by decide +kernel, by decide +kernel, by decide +kernel⟩
theorem lk_L_169 : Cond.methodLink RL 169 yL_freeIn ∈ lw_tg := in_tg 1012 (by decide +kernel) rfl
theorem mf_X9_freeIn : mfV yX9_freeIn cX9_freeIn 5 (some .int) 1 := ⟨in_tg 1685 (by decide +kernel) rfl, in_tg 1686 (by decide +kernel) rfl, in_tg 132 (by decide +kernel) rfl, in_tg 1687 (by decide +kernel) rfl, by decide +kernel, by decide +kernel, by decide +kernel⟩
theorem lk_L_171 : Cond.methodLink RL 171 yX9_freeIn ∈ lw_tg := in_tg 1684 (by decide +kernel) rfl
theorem mfL_longestRun : mfL yL_longestRun cL_longestRun 4 [(0, 9, 12, 29)] 3 := ⟨in_tg 1020 (by decide +kernel) rfl, in_tg 122 (by decide +kernel) rfl, in_tg 1021 (by decide +kernel) rfl, by decide +kernel, by decide +kernel, by decide +kernel⟩
theorem lk_L_172 : Cond.methodLink RL 172 yL_longestRun ∈ lw_tg := in_tg 1019 (by decide +kernel) rfl
theorem mf_X9_longestRun : mfV yX9_longestRun cX9_longestRun 5 (some .int) 1 := ⟨in_tg 1693 (by decide +kernel) rfl, in_tg 1694 (by decide +kernel) rfl, in_tg 132 (by decide +kernel) rfl, in_tg 1695 (by decide +kernel) rfl, by decide +kernel, by decide +kernel, by decide +kernel⟩
theorem lk_L_174 : Cond.methodLink RL 174 yX9_longestRun ∈ lw_tg := in_tg 1692 (by decide +kernel) rfl
theorem mf_X8_rowsUsed : mfV yX8_rowsUsed cX8_rowsUsed 5 (some .int) 0 := ⟨in_tg 694 (by decide +kernel) rfl, in_tg 695 (by decide +kernel) rfl, in_tg 123 (by decide +kernel) rfl, in_tg 696 (by decide +kernel) rfl, by decide +kernel, by decide +kernel, by decide +kernel⟩
theorem lk_L_175 : Cond.methodLink RL 175 yX8_rowsUsed ∈ lw_tg := in_tg 693 (by decide +kernel) rfl
theorem mf_X9_rowsUsed : mfV yX9_rowsUsed cX9_rowsUsed 4 (some .int) 0 := ⟨in_tg 1697 (by decide +kernel) rfl, in_tg 1698 (by decide +kernel) rfl, in_tg 132 (by decide +kernel) rfl, in_tg 1699 (by decide +kernel) rfl, by decide +kernel, by decide +kernel, by decide +kernel⟩
theorem lk_L_178 : Cond.methodLink RL 178 yX9_rowsUsed ∈ lw_tg := in_tg 1696 (by decide +kernel) rfl
theorem mf_X8_firstMissing : mfV yX8_firstMissing cX8_firstMissing 1 (some .int) 0 := ⟨in_tg 699 (by decide +kernel) rfl, in_tg 700 (by decide +kernel) rfl, in_tg 123 (by decide +kernel) rfl, in_tg 701 (by decide +kernel) rfl, by decide +kernel, by decide +kernel, by decide +kernel⟩
theorem lk_L_179 : Cond.methodLink RL 179 yX8_firstMissing ∈ lw_tg := in_tg 698 (by decide +kernel) rfl
theorem mf_X9_firstMissing : mfV yX9_firstMissing cX9_firstMissing 2 (some .int) 0 := ⟨in_tg 1701 (by decide +kernel) rfl, in_tg 1702 (by decide +kernel) rfl, in_tg 132 (by decide +kernel) rfl, in_tg 1703 (by decide +kernel) rfl, by decide +kernel, by decide +kernel, by decide +kernel⟩
theorem lk_L_182 : Cond.methodLink RL 182 yX9_firstMissing ∈ lw_tg := in_tg 1700 (by decide +kernel) rfl
theorem mf_X8_strokesLeft : mfV yX8_strokesLeft cX8_strokesLeft 1 (some .int) 0 := ⟨in_tg 703 (by decide +kernel) rfl, in_tg 704 (by decide +kernel) rfl, in_tg 123 (by decide +kernel) rfl, in_tg 705 (by decide +kernel) rfl, by decide +kernel, by decide +kernel, by decide +kernel⟩
theorem lk_L_183 : Cond.methodLink RL 183 yX8_strokesLeft ∈ lw_tg := in_tg 702 (by decide +kernel) rfl
theorem mf_X9_strokesLeft : mfV yX9_strokesLeft cX9_strokesLeft 2 (some .int) 0 := ⟨in_tg 1705 (by decide +kernel) rfl, in_tg 1706 (by decide +kernel) rfl, in_tg 132 (by decide +kernel) rfl, in_tg 1707 (by decide +kernel) rfl, by decide +kernel, by decide +kernel, by decide +kernel⟩
theorem lk_L_186 : Cond.methodLink RL 186 yX9_strokesLeft ∈ lw_tg := in_tg 1704 (by decide +kernel) rfl
theorem mfL_timeFor : mfL yL_timeFor cL_timeFor 4 [(0, 9, 12, 19)] 3 := ⟨in_tg 1027 (by decide +kernel) rfl, in_tg 122 (by decide +kernel) rfl, in_tg 1028 (by decide +kernel) rfl, by decide +kernel, by decide +kernel, by decide +kernel⟩
theorem lk_L_187 : Cond.methodLink RL 187 yL_timeFor ∈ lw_tg := in_tg 1026 (by decide +kernel) rfl
theorem mf_X9_timeFor : mfV yX9_timeFor cX9_timeFor 3 (some .int) 1 := ⟨in_tg 1721 (by decide +kernel) rfl, in_tg 1722 (by decide +kernel) rfl, in_tg 132 (by decide +kernel) rfl, in_tg 1723 (by decide +kernel) rfl, by decide +kernel, by decide +kernel, by decide +kernel⟩
theorem lk_L_189 : Cond.methodLink RL 189 yX9_timeFor ∈ lw_tg := in_tg 1720 (by decide +kernel) rfl
theorem mfL_lettersIn : mfL yL_lettersIn cL_lettersIn 4 [(0, 9, 12, 19)] 3 := ⟨in_tg 1034 (by decide +kernel) rfl, in_tg 122 (by decide +kernel) rfl, in_tg 1035 (by decide +kernel) rfl, by decide +kernel, by decide +kernel, by decide +kernel⟩
theorem lk_L_190 : Cond.methodLink RL 190 yL_lettersIn ∈ lw_tg := in_tg 1033 (by decide +kernel) rfl
theorem mf_X9_lettersIn : mfV yX9_lettersIn cX9_lettersIn 6 (some .int) 1 := ⟨in_tg 1737 (by decide +kernel) rfl, in_tg 1738 (by decide +kernel) rfl, in_tg 132 (by decide +kernel) rfl, in_tg 1739 (by decide +kernel) rfl, by decide +kernel, by decide +kernel, by decide +kernel⟩
theorem lk_L_192 : Cond.methodLink RL 192 yX9_lettersIn ∈ lw_tg := in_tg 1736 (by decide +kernel) rfl
theorem mf_X8_sharpenings : mfV yX8_sharpenings cX8_sharpenings 1 (some .int) 0 := ⟨in_tg 711 (by decide +kernel) rfl, in_tg 712 (by decide +kernel) rfl, in_tg 123 (by decide +kernel) rfl, in_tg 713 (by decide +kernel) rfl, by decide +kernel, by decide +kernel, by decide +kernel⟩
theorem lk_L_193 : Cond.methodLink RL 193 yX8_sharpenings ∈ lw_tg := in_tg 710 (by decide +kernel) rfl
theorem mf_X9_sharpenings : mfV yX9_sharpenings cX9_sharpenings 3 (some .int) 0 := ⟨in_tg 1741 (by decide +kernel) rfl, in_tg 1742 (by decide +kernel) rfl, in_tg 132 (by decide +kernel) rfl, in_tg 1743 (by decide +kernel) rfl, by decide +kernel, by decide +kernel, by decide +kernel⟩
theorem lk_L_196 : Cond.methodLink RL 196 yX9_sharpenings ∈ lw_tg := in_tg 1740 (by decide +kernel) rfl
theorem mfL_timeWith : mfL yL_timeWith cL_timeWith 4 [(0, 9, 12, 19)] 3 := ⟨in_tg 1041 (by decide +kernel) rfl, in_tg 122 (by decide +kernel) rfl, in_tg 1042 (by decide +kernel) rfl, by decide +kernel, by decide +kernel, by decide +kernel⟩
theorem lk_L_197 : Cond.methodLink RL 197 yL_timeWith ∈ lw_tg := in_tg 1040 (by decide +kernel) rfl
theorem mf_X9_timeWith : mfV yX9_timeWith cX9_timeWith 5 (some .int) 1 := ⟨in_tg 1745 (by decide +kernel) rfl, in_tg 1746 (by decide +kernel) rfl, in_tg 132 (by decide +kernel) rfl, in_tg 1747 (by decide +kernel) rfl, by decide +kernel, by decide +kernel, by decide +kernel⟩
theorem lk_L_199 : Cond.methodLink RL 199 yX9_timeWith ∈ lw_tg := in_tg 1744 (by decide +kernel) rfl
theorem mf_X8_nextCell : mfV yX8_nextCell cX8_nextCell 1 (some .int) 0 := ⟨in_tg 731 (by decide +kernel) rfl, in_tg 732 (by decide +kernel) rfl, in_tg 123 (by decide +kernel) rfl, in_tg 733 (by decide +kernel) rfl, by decide +kernel, by decide +kernel, by decide +kernel⟩
theorem lk_L_200 : Cond.methodLink RL 200 yX8_nextCell ∈ lw_tg := in_tg 730 (by decide +kernel) rfl
theorem mf_X9_nextCell : mfV yX9_nextCell cX9_nextCell 4 (some .int) 0 := ⟨in_tg 1753 (by decide +kernel) rfl, in_tg 1754 (by decide +kernel) rfl, in_tg 132 (by decide +kernel) rfl, in_tg 1755 (by decide +kernel) rfl, by decide +kernel, by decide +kernel, by decide +kernel⟩
theorem lk_L_203 : Cond.methodLink RL 203 yX9_nextCell ∈ lw_tg := in_tg 1752 (by decide +kernel) rfl
theorem mfL_laidIf : mfL yL_laidIf cL_laidIf 5 [(0, 10, 13, 29)] 4 := ⟨in_tg 1049 (by decide +kernel) rfl, in_tg 122 (by decide +kernel) rfl, in_tg 1050 (by decide +kernel) rfl, by decide +kernel, by decide +kernel, by decide +kernel⟩
theorem lk_L_204 : Cond.methodLink RL 204 yL_laidIf ∈ lw_tg := in_tg 1048 (by decide +kernel) rfl
theorem lk_L_206 : Cond.methodLink RL 206 yX9_laidIf ∈ lw_tg := in_tg 1756 (by decide +kernel) rfl
theorem mf_X8_worstFlaw : mfV yX8_worstFlaw cX8_worstFlaw 6 (some .int) 0 := ⟨in_tg 735 (by decide +kernel) rfl, in_tg 736 (by decide +kernel) rfl, in_tg 123 (by decide +kernel) rfl, in_tg 737 (by decide +kernel) rfl, by decide +kernel, by decide +kernel, by decide +kernel⟩
theorem lk_L_207 : Cond.methodLink RL 207 yX8_worstFlaw ∈ lw_tg := in_tg 734 (by decide +kernel) rfl
theorem mf_X9_worstFlaw : mfV yX9_worstFlaw cX9_worstFlaw 6 (some .int) 0 := ⟨in_tg 1769 (by decide +kernel) rfl, in_tg 1770 (by decide +kernel) rfl, in_tg 132 (by decide +kernel) rfl, in_tg 1771 (by decide +kernel) rfl, by decide +kernel, by decide +kernel, by decide +kernel⟩
theorem lk_L_210 : Cond.methodLink RL 210 yX9_worstFlaw ∈ lw_tg := in_tg 1768 (by decide +kernel) rfl
theorem mf_X8_laidWithout : mfV yX8_laidWithout cX8_laidWithout 1 (some .int) 0 := ⟨in_tg 746 (by decide +kernel) rfl, in_tg 747 (by decide +kernel) rfl, in_tg 123 (by decide +kernel) rfl, in_tg 748 (by decide +kernel) rfl, by decide +kernel, by decide +kernel, by decide +kernel⟩
theorem lk_L_211 : Cond.methodLink RL 211 yX8_laidWithout ∈ lw_tg := in_tg 745 (by decide +kernel) rfl
theorem mf_X9_laidWithout : mfV yX9_laidWithout cX9_laidWithout 2 (some .int) 0 := ⟨in_tg 1774 (by decide +kernel) rfl, in_tg 1775 (by decide +kernel) rfl, in_tg 132 (by decide +kernel) rfl, in_tg 1776 (by decide +kernel) rfl, by decide +kernel, by decide +kernel, by decide +kernel⟩
theorem lk_L_214 : Cond.methodLink RL 214 yX9_laidWithout ∈ lw_tg := in_tg 1773 (by decide +kernel) rfl
theorem mfL_laidWith : mfL yL_laidWith cL_laidWith 4 [(0, 9, 12, 19)] 3 := ⟨in_tg 1056 (by decide +kernel) rfl, in_tg 122 (by decide +kernel) rfl, in_tg 1057 (by decide +kernel) rfl, by decide +kernel, by decide +kernel, by decide +kernel⟩
theorem lk_L_215 : Cond.methodLink RL 215 yL_laidWith ∈ lw_tg := in_tg 1055 (by decide +kernel) rfl
theorem mf_X9_laidWith : mfV yX9_laidWith cX9_laidWith 2 (some .int) 1 := ⟨in_tg 1778 (by decide +kernel) rfl, in_tg 1779 (by decide +kernel) rfl, in_tg 132 (by decide +kernel) rfl, in_tg 1780 (by decide +kernel) rfl, by decide +kernel, by decide +kernel, by decide +kernel⟩
theorem lk_L_217 : Cond.methodLink RL 217 yX9_laidWith ∈ lw_tg := in_tg 1777 (by decide +kernel) rfl
theorem mf_X8_laidTurned : mfV yX8_laidTurned cX8_laidTurned 1 (some .int) 0 := ⟨in_tg 751 (by decide +kernel) rfl, in_tg 752 (by decide +kernel) rfl, in_tg 123 (by decide +kernel) rfl, in_tg 753 (by decide +kernel) rfl, by decide +kernel, by decide +kernel, by decide +kernel⟩
theorem lk_L_218 : Cond.methodLink RL 218 yX8_laidTurned ∈ lw_tg := in_tg 750 (by decide +kernel) rfl
theorem mf_X9_laidTurned : mfV yX9_laidTurned cX9_laidTurned 1 (some .int) 0 := ⟨in_tg 1786 (by decide +kernel) rfl, in_tg 1787 (by decide +kernel) rfl, in_tg 132 (by decide +kernel) rfl, in_tg 1788 (by decide +kernel) rfl, by decide +kernel, by decide +kernel, by decide +kernel⟩
theorem lk_L_221 : Cond.methodLink RL 221 yX9_laidTurned ∈ lw_tg := in_tg 1785 (by decide +kernel) rfl
theorem mf_X8_leastRows : mfV yX8_leastRows cX8_leastRows 1 (some .int) 0 := ⟨in_tg 761 (by decide +kernel) rfl, in_tg 762 (by decide +kernel) rfl, in_tg 123 (by decide +kernel) rfl, in_tg 763 (by decide +kernel) rfl, by decide +kernel, by decide +kernel, by decide +kernel⟩
theorem lk_L_222 : Cond.methodLink RL 222 yX8_leastRows ∈ lw_tg := in_tg 760 (by decide +kernel) rfl
theorem mf_X9_leastRows : mfV yX9_leastRows cX9_leastRows 3 (some .int) 0 := ⟨in_tg 1794 (by decide +kernel) rfl, in_tg 1795 (by decide +kernel) rfl, in_tg 132 (by decide +kernel) rfl, in_tg 1796 (by decide +kernel) rfl, by decide +kernel, by decide +kernel, by decide +kernel⟩
theorem lk_L_225 : Cond.methodLink RL 225 yX9_leastRows ∈ lw_tg := in_tg 1793 (by decide +kernel) rfl
theorem mfL_laidBut : mfL yL_laidBut cL_laidBut 4 [(0, 9, 12, 29)] 3 := ⟨in_tg 1067 (by decide +kernel) rfl, in_tg 122 (by decide +kernel) rfl, in_tg 1068 (by decide +kernel) rfl, by decide +kernel, by decide +kernel, by decide +kernel⟩
theorem lk_L_226 : Cond.methodLink RL 226 yL_laidBut ∈ lw_tg := in_tg 1066 (by decide +kernel) rfl
theorem mf_X9_laidBut : mfV yX9_laidBut cX9_laidBut 2 (some .int) 1 := ⟨in_tg 1798 (by decide +kernel) rfl, in_tg 1799 (by decide +kernel) rfl, in_tg 132 (by decide +kernel) rfl, in_tg 1800 (by decide +kernel) rfl, by decide +kernel, by decide +kernel, by decide +kernel⟩
theorem lk_L_228 : Cond.methodLink RL 228 yX9_laidBut ∈ lw_tg := in_tg 1797 (by decide +kernel) rfl
theorem mfL_bestPlace : mfL yL_bestPlace cL_bestPlace 4 [(0, 9, 12, 29)] 3 := ⟨in_tg 1086 (by decide +kernel) rfl, in_tg 122 (by decide +kernel) rfl, in_tg 1087 (by decide +kernel) rfl, by decide +kernel, by decide +kernel, by decide +kernel⟩
theorem lk_L_229 : Cond.methodLink RL 229 yL_bestPlace ∈ lw_tg := in_tg 1085 (by decide +kernel) rfl
theorem mf_X9_bestPlace : mfV yX9_bestPlace cX9_bestPlace 6 (some .int) 1 := ⟨in_tg 1810 (by decide +kernel) rfl, in_tg 1811 (by decide +kernel) rfl, in_tg 132 (by decide +kernel) rfl, in_tg 1812 (by decide +kernel) rfl, by decide +kernel, by decide +kernel, by decide +kernel⟩
theorem lk_L_231 : Cond.methodLink RL 231 yX9_bestPlace ∈ lw_tg := in_tg 1809 (by decide +kernel) rfl
theorem mf_X8_touching : mfV yX8_touching cX8_touching 4 (some .int) 0 := ⟨in_tg 765 (by decide +kernel) rfl, in_tg 766 (by decide +kernel) rfl, in_tg 123 (by decide +kernel) rfl, in_tg 767 (by decide +kernel) rfl, by decide +kernel, by decide +kernel, by decide +kernel⟩
theorem lk_L_232 : Cond.methodLink RL 232 yX8_touching ∈ lw_tg := in_tg 764 (by decide +kernel) rfl
theorem mf_X9_touching : mfV yX9_touching cX9_touching 5 (some .int) 0 := ⟨in_tg 1818 (by decide +kernel) rfl, in_tg 1819 (by decide +kernel) rfl, in_tg 132 (by decide +kernel) rfl, in_tg 1820 (by decide +kernel) rfl, by decide +kernel, by decide +kernel, by decide +kernel⟩
theorem lk_L_235 : Cond.methodLink RL 235 yX9_touching ∈ lw_tg := in_tg 1817 (by decide +kernel) rfl
theorem mf_X8_dear : mfV yX8_dear cX8_dear 4 (some .int) 0 := ⟨in_tg 777 (by decide +kernel) rfl, in_tg 778 (by decide +kernel) rfl, in_tg 123 (by decide +kernel) rfl, in_tg 779 (by decide +kernel) rfl, by decide +kernel, by decide +kernel, by decide +kernel⟩
theorem lk_L_236 : Cond.methodLink RL 236 yX8_dear ∈ lw_tg := in_tg 776 (by decide +kernel) rfl
theorem mf_X9_dear : mfV yX9_dear cX9_dear 5 (some .int) 0 := ⟨in_tg 1830 (by decide +kernel) rfl, in_tg 1831 (by decide +kernel) rfl, in_tg 132 (by decide +kernel) rfl, in_tg 1832 (by decide +kernel) rfl, by decide +kernel, by decide +kernel, by decide +kernel⟩
theorem lk_L_239 : Cond.methodLink RL 239 yX9_dear ∈ lw_tg := in_tg 1829 (by decide +kernel) rfl
theorem mf_X8_carvedShare : mfV yX8_carvedShare cX8_carvedShare 1 (some .float) 0 := ⟨in_tg 782 (by decide +kernel) rfl, in_tg 783 (by decide +kernel) rfl, in_tg 123 (by decide +kernel) rfl, in_tg 784 (by decide +kernel) rfl, by decide +kernel, by decide +kernel, by decide +kernel⟩
theorem lk_L_240 : Cond.methodLink RL 240 yX8_carvedShare ∈ lw_tg := in_tg 781 (by decide +kernel) rfl
theorem mf_X9_carvedShare : mfV yX9_carvedShare cX9_carvedShare 2 (some .float) 0 := ⟨in_tg 1834 (by decide +kernel) rfl, in_tg 1835 (by decide +kernel) rfl, in_tg 132 (by decide +kernel) rfl, in_tg 1836 (by decide +kernel) rfl, by decide +kernel, by decide +kernel, by decide +kernel⟩
theorem lk_L_244 : Cond.methodLink RL 244 yX9_carvedShare ∈ lw_tg := in_tg 1833 (by decide +kernel) rfl
theorem mf_X8_meanStrokes : mfV yX8_meanStrokes cX8_meanStrokes 2 (some .double) 0 := ⟨in_tg 786 (by decide +kernel) rfl, in_tg 787 (by decide +kernel) rfl, in_tg 123 (by decide +kernel) rfl, in_tg 788 (by decide +kernel) rfl, by decide +kernel, by decide +kernel, by decide +kernel⟩
theorem lk_L_245 : Cond.methodLink RL 245 yX8_meanStrokes ∈ lw_tg := in_tg 785 (by decide +kernel) rfl
theorem mf_X9_meanStrokes : mfV yX9_meanStrokes cX9_meanStrokes 2 (some .double) 0 := ⟨in_tg 1838 (by decide +kernel) rfl, in_tg 1839 (by decide +kernel) rfl, in_tg 132 (by decide +kernel) rfl, in_tg 1840 (by decide +kernel) rfl, by decide +kernel, by decide +kernel, by decide +kernel⟩
theorem lk_L_249 : Cond.methodLink RL 249 yX9_meanStrokes ∈ lw_tg := in_tg 1837 (by decide +kernel) rfl
theorem mf_X8_density : mfV yX8_density cX8_density 2 (some .double) 0 := ⟨in_tg 790 (by decide +kernel) rfl, in_tg 791 (by decide +kernel) rfl, in_tg 123 (by decide +kernel) rfl, in_tg 792 (by decide +kernel) rfl, by decide +kernel, by decide +kernel, by decide +kernel⟩
theorem lk_L_250 : Cond.methodLink RL 250 yX8_density ∈ lw_tg := in_tg 789 (by decide +kernel) rfl
theorem mf_X9_density : mfV yX9_density cX9_density 3 (some .double) 0 := ⟨in_tg 1842 (by decide +kernel) rfl, in_tg 1843 (by decide +kernel) rfl, in_tg 132 (by decide +kernel) rfl, in_tg 1844 (by decide +kernel) rfl, by decide +kernel, by decide +kernel, by decide +kernel⟩
theorem lk_L_253 : Cond.methodLink RL 253 yX9_density ∈ lw_tg := in_tg 1841 (by decide +kernel) rfl
theorem mfL_addPart : mfL yL_addPart cL_addPart 4 [(0, 9, 12, 19), (0, 9, 15, 13)] 3 := ⟨in_tg 1100 (by decide +kernel) rfl, in_tg 122 (by decide +kernel) rfl, in_tg 1101 (by decide +kernel) rfl, by decide +kernel, by decide +kernel, by decide +kernel⟩
theorem lk_L_254 : Cond.methodLink RL 254 yL_addPart ∈ lw_tg := in_tg 1099 (by decide +kernel) rfl
theorem mf_X9_addPart : mfV yX9_addPart cX9_addPart 8 (some .int) 1 := ⟨in_tg 1846 (by decide +kernel) rfl, in_tg 1847 (by decide +kernel) rfl, in_tg 132 (by decide +kernel) rfl, in_tg 1848 (by decide +kernel) rfl, by decide +kernel, by decide +kernel, by decide +kernel⟩
theorem lk_L_256 : Cond.methodLink RL 256 yX9_addPart ∈ lw_tg := in_tg 1845 (by decide +kernel) rfl
theorem mfL_dropPart : mfL yL_dropPart cL_dropPart 4 [(0, 9, 12, 29), (0, 9, 15, 13)] 3 := ⟨in_tg 1116 (by decide +kernel) rfl, in_tg 122 (by decide +kernel) rfl, in_tg 1117 (by decide +kernel) rfl, by decide +kernel, by decide +kernel, by decide +kernel⟩
theorem lk_L_257 : Cond.methodLink RL 257 yL_dropPart ∈ lw_tg := in_tg 1115 (by decide +kernel) rfl
theorem mf_X9_dropPart : mfV yX9_dropPart cX9_dropPart 2 (some .int) 1 := ⟨in_tg 1851 (by decide +kernel) rfl, in_tg 1852 (by decide +kernel) rfl, in_tg 132 (by decide +kernel) rfl, in_tg 1853 (by decide +kernel) rfl, by decide +kernel, by decide +kernel, by decide +kernel⟩
theorem lk_L_259 : Cond.methodLink RL 259 yX9_dropPart ∈ lw_tg := in_tg 1850 (by decide +kernel) rfl
theorem mfL_movePart : mfL yL_movePart cL_movePart 5 [(0, 10, 13, 29), (0, 10, 17, 13)] 4 := ⟨in_tg 1140 (by decide +kernel) rfl, in_tg 122 (by decide +kernel) rfl, in_tg 1141 (by decide +kernel) rfl, by decide +kernel, by decide +kernel, by decide +kernel⟩
theorem lk_L_260 : Cond.methodLink RL 260 yL_movePart ∈ lw_tg := in_tg 1139 (by decide +kernel) rfl
theorem mf_X9_movePart : mfV yX9_movePart cX9_movePart 3 (some .int) 2 := ⟨in_tg 1875 (by decide +kernel) rfl, in_tg 1876 (by decide +kernel) rfl, in_tg 132 (by decide +kernel) rfl, in_tg 1877 (by decide +kernel) rfl, by decide +kernel, by decide +kernel, by decide +kernel⟩
theorem lk_L_262 : Cond.methodLink RL 262 yX9_movePart ∈ lw_tg := in_tg 1874 (by decide +kernel) rfl
theorem mfL_setFlaw : mfL yL_setFlaw cL_setFlaw 6 [(0, 19, 22, 29), (0, 19, 26, 13)] 5 := ⟨in_tg 1147 (by decide +kernel) rfl, in_tg 122 (by decide +kernel) rfl, in_tg 1148 (by decide +kernel) rfl, by decide +kernel, by decide +kernel, by decide +kernel⟩
theorem lk_L_263 : Cond.methodLink RL 263 yL_setFlaw ∈ lw_tg := in_tg 1146 (by decide +kernel) rfl
theorem mf_X9_setFlaw : mfV yX9_setFlaw cX9_setFlaw 6 (some .boolean) 3 := ⟨in_tg 1879 (by decide +kernel) rfl, in_tg 1880 (by decide +kernel) rfl, in_tg 132 (by decide +kernel) rfl, in_tg 1881 (by decide +kernel) rfl, by decide +kernel, by decide +kernel, by decide +kernel⟩
theorem lk_L_266 : Cond.methodLink RL 266 yX9_setFlaw ∈ lw_tg := in_tg 1878 (by decide +kernel) rfl
theorem mfL_setGap : mfL yL_setGap cL_setGap 4 [(0, 9, 12, 19), (0, 9, 15, 13)] 3 := ⟨in_tg 1154 (by decide +kernel) rfl, in_tg 122 (by decide +kernel) rfl, in_tg 1155 (by decide +kernel) rfl, by decide +kernel, by decide +kernel, by decide +kernel⟩
theorem lk_L_267 : Cond.methodLink RL 267 yL_setGap ∈ lw_tg := in_tg 1153 (by decide +kernel) rfl
theorem mf_X9_setGap : mfV yX9_setGap cX9_setGap 3 (some .int) 1 := ⟨in_tg 1883 (by decide +kernel) rfl, in_tg 1884 (by decide +kernel) rfl, in_tg 132 (by decide +kernel) rfl, in_tg 1885 (by decide +kernel) rfl, by decide +kernel, by decide +kernel, by decide +kernel⟩
theorem lk_L_269 : Cond.methodLink RL 269 yX9_setGap ∈ lw_tg := in_tg 1882 (by decide +kernel) rfl
theorem mfL_turnSlab : mfL yL_turnSlab cL_turnSlab 3 [(0, 8, 11, 13)] 2 := ⟨in_tg 1161 (by decide +kernel) rfl, in_tg 122 (by decide +kernel) rfl, in_tg 1162 (by decide +kernel) rfl, by decide +kernel, by decide +kernel, by decide +kernel⟩
theorem lk_L_270 : Cond.methodLink RL 270 yL_turnSlab ∈ lw_tg := in_tg 1160 (by decide +kernel) rfl
theorem mf_X9_turnSlab : mfV yX9_turnSlab cX9_turnSlab 1 (some .int) 0 := ⟨in_tg 1887 (by decide +kernel) rfl, in_tg 1888 (by decide +kernel) rfl, in_tg 132 (by decide +kernel) rfl, in_tg 1889 (by decide +kernel) rfl, by decide +kernel, by decide +kernel, by decide +kernel⟩
theorem lk_L_273 : Cond.methodLink RL 273 yX9_turnSlab ∈ lw_tg := in_tg 1886 (by decide +kernel) rfl
theorem mfL_cutRows : mfL yL_cutRows cL_cutRows 5 [(0, 10, 13, 19), (0, 10, 17, 13)] 4 := ⟨in_tg 1168 (by decide +kernel) rfl, in_tg 122 (by decide +kernel) rfl, in_tg 1169 (by decide +kernel) rfl, by decide +kernel, by decide +kernel, by decide +kernel⟩
theorem lk_L_274 : Cond.methodLink RL 274 yL_cutRows ∈ lw_tg := in_tg 1167 (by decide +kernel) rfl
theorem mf_X9_cutRows : mfV yX9_cutRows cX9_cutRows 3 (some .int) 2 := ⟨in_tg 1891 (by decide +kernel) rfl, in_tg 1892 (by decide +kernel) rfl, in_tg 132 (by decide +kernel) rfl, in_tg 1893 (by decide +kernel) rfl, by decide +kernel, by decide +kernel, by decide +kernel⟩
theorem lk_L_277 : Cond.methodLink RL 277 yX9_cutRows ∈ lw_tg := in_tg 1890 (by decide +kernel) rfl
theorem mfL_carve : mfL yL_carve cL_carve 4 [(0, 9, 12, 19)] 3 := ⟨in_tg 1179 (by decide +kernel) rfl, in_tg 122 (by decide +kernel) rfl, in_tg 1180 (by decide +kernel) rfl, by decide +kernel, by decide +kernel, by decide +kernel⟩
theorem lk_L_278 : Cond.methodLink RL 278 yL_carve ∈ lw_tg := in_tg 1178 (by decide +kernel) rfl
theorem mf_X9_carve : mfV yX9_carve cX9_carve 5 (some .int) 1 := ⟨in_tg 1899 (by decide +kernel) rfl, in_tg 1900 (by decide +kernel) rfl, in_tg 132 (by decide +kernel) rfl, in_tg 1901 (by decide +kernel) rfl, by decide +kernel, by decide +kernel, by decide +kernel⟩
theorem lk_L_280 : Cond.methodLink RL 280 yX9_carve ∈ lw_tg := in_tg 1898 (by decide +kernel) rfl
theorem mf_X8_sharpen : mfV yX8_sharpen cX8_sharpen 2 (some .int) 0 := ⟨in_tg 804 (by decide +kernel) rfl, in_tg 805 (by decide +kernel) rfl, in_tg 123 (by decide +kernel) rfl, in_tg 806 (by decide +kernel) rfl, by decide +kernel, by decide +kernel, by decide +kernel⟩
theorem lk_L_281 : Cond.methodLink RL 281 yX8_sharpen ∈ lw_tg := in_tg 803 (by decide +kernel) rfl
theorem mf_X9_sharpen : mfV yX9_sharpen cX9_sharpen 2 (some .int) 0 := ⟨in_tg 1904 (by decide +kernel) rfl, in_tg 1905 (by decide +kernel) rfl, in_tg 132 (by decide +kernel) rfl, in_tg 1906 (by decide +kernel) rfl, by decide +kernel, by decide +kernel, by decide +kernel⟩
theorem lk_L_284 : Cond.methodLink RL 284 yX9_sharpen ∈ lw_tg := in_tg 1903 (by decide +kernel) rfl
theorem mfL_setChisel : mfL yL_setChisel cL_setChisel 5 [(0, 10, 13, 19)] 4 := ⟨in_tg 1186 (by decide +kernel) rfl, in_tg 122 (by decide +kernel) rfl, in_tg 1187 (by decide +kernel) rfl, by decide +kernel, by decide +kernel, by decide +kernel⟩
theorem lk_L_285 : Cond.methodLink RL 285 yL_setChisel ∈ lw_tg := in_tg 1185 (by decide +kernel) rfl
theorem mf_X9_setChisel : mfV yX9_setChisel cX9_setChisel 4 (some .int) 2 := ⟨in_tg 1908 (by decide +kernel) rfl, in_tg 1909 (by decide +kernel) rfl, in_tg 132 (by decide +kernel) rfl, in_tg 1910 (by decide +kernel) rfl, by decide +kernel, by decide +kernel, by decide +kernel⟩
theorem lk_L_287 : Cond.methodLink RL 287 yX9_setChisel ∈ lw_tg := in_tg 1907 (by decide +kernel) rfl
theorem mfL_keep : mfL yL_keep cL_keep 4 [(0, 9, 12, 29)] 3 := ⟨in_tg 1193 (by decide +kernel) rfl, in_tg 122 (by decide +kernel) rfl, in_tg 1194 (by decide +kernel) rfl, by decide +kernel, by decide +kernel, by decide +kernel⟩
theorem lk_L_288 : Cond.methodLink RL 288 yL_keep ∈ lw_tg := in_tg 1192 (by decide +kernel) rfl
theorem mf_X9_keep : mfV yX9_keep cX9_keep 3 (some .int) 1 := ⟨in_tg 1913 (by decide +kernel) rfl, in_tg 1914 (by decide +kernel) rfl, in_tg 132 (by decide +kernel) rfl, in_tg 1915 (by decide +kernel) rfl, by decide +kernel, by decide +kernel, by decide +kernel⟩
theorem lk_L_290 : Cond.methodLink RL 290 yX9_keep ∈ lw_tg := in_tg 1912 (by decide +kernel) rfl
theorem mfL_restore : mfL yL_restore cL_restore 4 [(0, 9, 12, 29), (0, 9, 15, 13)] 3 := ⟨in_tg 1204 (by decide +kernel) rfl, in_tg 122 (by decide +kernel) rfl, in_tg 1205 (by decide +kernel) rfl, by decide +kernel, by decide +kernel, by decide +kernel⟩
theorem lk_L_291 : Cond.methodLink RL 291 yL_restore ∈ lw_tg := in_tg 1203 (by decide +kernel) rfl
theorem mf_X9_restore : mfV yX9_restore cX9_restore 3 (some .int) 1 := ⟨in_tg 1920 (by decide +kernel) rfl, in_tg 1921 (by decide +kernel) rfl, in_tg 132 (by decide +kernel) rfl, in_tg 1922 (by decide +kernel) rfl, by decide +kernel, by decide +kernel, by decide +kernel⟩
theorem lk_L_293 : Cond.methodLink RL 293 yX9_restore ∈ lw_tg := in_tg 1919 (by decide +kernel) rfl
theorem mfL_undo : mfL yL_undo cL_undo 3 [(0, 8, 11, 13)] 2 := ⟨in_tg 1211 (by decide +kernel) rfl, in_tg 122 (by decide +kernel) rfl, in_tg 1212 (by decide +kernel) rfl, by decide +kernel, by decide +kernel, by decide +kernel⟩
theorem lk_L_294 : Cond.methodLink RL 294 yL_undo ∈ lw_tg := in_tg 1210 (by decide +kernel) rfl
theorem mf_X9_undo : mfV yX9_undo cX9_undo 2 (some .int) 0 := ⟨in_tg 1924 (by decide +kernel) rfl, in_tg 1925 (by decide +kernel) rfl, in_tg 132 (by decide +kernel) rfl, in_tg 1926 (by decide +kernel) rfl, by decide +kernel, by decide +kernel, by decide +kernel⟩
theorem lk_L_296 : Cond.methodLink RL 296 yX9_undo ∈ lw_tg := in_tg 1923 (by decide +kernel) rfl
theorem mf_X8_undoCount : mfV yX8_undoCount cX8_undoCount 1 (some .int) 0 := ⟨in_tg 809 (by decide +kernel) rfl, in_tg 810 (by decide +kernel) rfl, in_tg 123 (by decide +kernel) rfl, in_tg 811 (by decide +kernel) rfl, by decide +kernel, by decide +kernel, by decide +kernel⟩
theorem lk_L_297 : Cond.methodLink RL 297 yX8_undoCount ∈ lw_tg := in_tg 808 (by decide +kernel) rfl
theorem mf_X9_undoCount : mfV yX9_undoCount cX9_undoCount 1 (some .int) 0 := ⟨in_tg 1928 (by decide +kernel) rfl, in_tg 1929 (by decide +kernel) rfl, in_tg 132 (by decide +kernel) rfl, in_tg 1930 (by decide +kernel) rfl, by decide +kernel, by decide +kernel, by decide +kernel⟩
theorem lk_L_300 : Cond.methodLink RL 300 yX9_undoCount ∈ lw_tg := in_tg 1927 (by decide +kernel) rfl
theorem mfL_writeRow : mfL yL_writeRow cL_writeRow 4 [(0, 9, 12, 29)] 3 := ⟨in_tg 1222 (by decide +kernel) rfl, in_tg 122 (by decide +kernel) rfl, in_tg 1223 (by decide +kernel) rfl, by decide +kernel, by decide +kernel, by decide +kernel⟩
theorem lk_L_301 : Cond.methodLink RL 301 yL_writeRow ∈ lw_tg := in_tg 1221 (by decide +kernel) rfl
theorem mf_X9_writeRow : mfV yX9_writeRow cX9_writeRow 6 (some .int) 1 := ⟨in_tg 1932 (by decide +kernel) rfl, in_tg 1933 (by decide +kernel) rfl, in_tg 132 (by decide +kernel) rfl, in_tg 1934 (by decide +kernel) rfl, by decide +kernel, by decide +kernel, by decide +kernel⟩
theorem lk_L_303 : Cond.methodLink RL 303 yX9_writeRow ∈ lw_tg := in_tg 1931 (by decide +kernel) rfl
theorem mfL_writePart : mfL yL_writePart cL_writePart 4 [(0, 9, 12, 29)] 3 := ⟨in_tg 1234 (by decide +kernel) rfl, in_tg 122 (by decide +kernel) rfl, in_tg 1235 (by decide +kernel) rfl, by decide +kernel, by decide +kernel, by decide +kernel⟩
theorem lk_L_304 : Cond.methodLink RL 304 yL_writePart ∈ lw_tg := in_tg 1233 (by decide +kernel) rfl
theorem mf_X9_writePart : mfV yX9_writePart cX9_writePart 5 (some .int) 1 := ⟨in_tg 1944 (by decide +kernel) rfl, in_tg 1945 (by decide +kernel) rfl, in_tg 132 (by decide +kernel) rfl, in_tg 1946 (by decide +kernel) rfl, by decide +kernel, by decide +kernel, by decide +kernel⟩
theorem lk_L_306 : Cond.methodLink RL 306 yX9_writePart ∈ lw_tg := in_tg 1943 (by decide +kernel) rfl
theorem mfL_outputByte : mfL yL_outputByte cL_outputByte 4 [(0, 9, 12, 118)] 3 := ⟨in_tg 1245 (by decide +kernel) rfl, in_tg 122 (by decide +kernel) rfl, in_tg 1246 (by decide +kernel) rfl, by decide +kernel, by decide +kernel, by decide +kernel⟩
theorem lk_L_307 : Cond.methodLink RL 307 yL_outputByte ∈ lw_tg := in_tg 1244 (by decide +kernel) rfl
theorem mf_X9_outputByte : mfV yX9_outputByte cX9_outputByte 2 (some .int) 1 := ⟨in_tg 1952 (by decide +kernel) rfl, in_tg 1953 (by decide +kernel) rfl, in_tg 132 (by decide +kernel) rfl, in_tg 1954 (by decide +kernel) rfl, by decide +kernel, by decide +kernel, by decide +kernel⟩
theorem lk_L_309 : Cond.methodLink RL 309 yX9_outputByte ∈ lw_tg := in_tg 1951 (by decide +kernel) rfl
def inlO {α : Type} (z : Rz) (f : Int → Option α) : Option α := match z.1 with
  | .inl r => f r
  | .inr _ => none
theorem inlO_some {α : Type} {z : Rz} {f : Int → Option α} {res : α} (h : inlO z f = some res) : ∃ r, z = (.inl r, z.2) ∧ f r = some res := by
  obtain ⟨z1, z2⟩ := z
  cases z1 with
  | inl r => exact ⟨r, rfl, h⟩
  | inr k => cases h
abbrev MCL : Nat := 601024
abbrev MSL : Nat := 7293034
theorem lq {a b c s : Nat} (h : a + 15 ≤ MCL ∧ b + 852 ≤ MSL) (h1 : c ≤ 15) (h2 : s ≤ 852) : a + c ≤ MCL ∧ b + s ≤ MSL := ⟨by omega, by omega⟩
theorem lq0 {a b : Nat} (h : a + 15 ≤ MCL ∧ b + 852 ≤ MSL) : a ≤ MCL ∧ b ≤ MSL := ⟨by omega, by omega⟩
theorem lq1 {a b a1 b1 c s : Nat} (h : a + 15 ≤ MCL ∧ b + 852 ≤ MSL) (e1 : a1 = a + c) (e2 : b1 = b + s) (h1 : c ≤ 15) (h2 : s ≤ 852) : a1 ≤ MCL ∧ b1 ≤ MSL := ⟨by omega, by omega⟩
theorem lc {a a1 c k : Nat} (e : a1 = a + c) (h : c ≤ k) : a1 ≤ a + k := by omega
theorem agq1 {na : Nat} {ad : Nat → Nat} {d : Dl} (h : AG na ad d) : ad 1 = d.ad 1 := h.one
theorem agq3 {na : Nat} {ad : Nat → Nat} {d : Dl} (h : AG na ad d) : ad 34 = d.ad 34 := (h.2 34 (by rw [kd_main (by decide)]; decide)).symm
def p_op_0 (xs : Nat → Int32) (i : Int) (na : Nat) (wC wM : Wd) : Option (Nat × Wd × Wd) := (p_L_append (sc xs (i + 1)) (sc xs (i + 2)) (sc xs (i + 3)) (sc xs (i + 4)) (sc xs (i + 5)) na wC).bind fun z1 => (p_X9_append (sc xs (i + 1)) (sc xs (i + 2)) (sc xs (i + 3)) (sc xs (i + 4)) (sc xs (i + 5)) wM).bind fun m3 => (p_X9_thrown m3.2).bind fun m4 => if eq32 m4.1 z1.1 = true then (if eq32 z1.1 0 = true then (if eq32 (lcm64 (gA z1.2.2 34 0) (w32 m3.1)) 0 = true then (some (z1.2.1, z1.2.2, m4.2)) else (none)) else (some (z1.2.1, z1.2.2, m4.2))) else (none)
def p_op_1 (xs : Nat → Int32) (i : Int) (na : Nat) (wC wM : Wd) : Option (Nat × Wd × Wd) := (p_L_truncate (sc xs (i + 1)) na wC).bind fun z1 => (p_X9_truncate (sc xs (i + 1)) wM).bind fun m3 => (p_X9_thrown m3).bind fun m4 => if eq32 m4.1 z1.1 = true then (some (z1.2.1, z1.2.2, m4.2)) else (none)
def p_op_2 (xs : Nat → Int32) (i : Int) (na : Nat) (wC wM : Wd) : Option (Nat × Wd × Wd) := (p_X8_load na wC).bind fun z1 => inlO z1 fun rz1 => (p_X9_load wM).bind fun m3 => if eq32 rz1 m3.1 = true then (some (z1.2.1, z1.2.2, m3.2)) else (none)
def p_op_3 (xs : Nat → Int32) (i : Int) (na : Nat) (wC wM : Wd) : Option (Nat × Wd × Wd) := (p_X8_errorCode wC).bind fun m1 => (p_X9_errorCode wM).bind fun m2 => if eq32 m1.1 m2.1 = true then (some (na, m1.2, m2.2)) else (none)
def p_op_4 (xs : Nat → Int32) (i : Int) (na : Nat) (wC wM : Wd) : Option (Nat × Wd × Wd) := (p_X8_errorPosition wC).bind fun m1 => (p_X9_errorPosition wM).bind fun m2 => if eq32 m1.1 m2.1 = true then (some (na, m1.2, m2.2)) else (none)
def p_op_5 (xs : Nat → Int32) (i : Int) (na : Nat) (wC wM : Wd) : Option (Nat × Wd × Wd) := (p_L_property (sc xs (i + 1)) na wC).bind fun z1 => (p_X9_property (sc xs (i + 1)) wM).bind fun m3 => (p_X9_thrown m3.2).bind fun m4 => if eq32 m4.1 z1.1 = true then (if eq32 z1.1 0 = true then (if eq32 (lcm64 (gA z1.2.2 34 0) (w32 m3.1)) 0 = true then (some (z1.2.1, z1.2.2, m4.2)) else (none)) else (some (z1.2.1, z1.2.2, m4.2))) else (none)
def p_op_6 (xs : Nat → Int32) (i : Int) (na : Nat) (wC wM : Wd) : Option (Nat × Wd × Wd) := (p_L_part (sc xs (i + 1)) (sc xs (i + 2)) na wC).bind fun z1 => (p_X9_part (sc xs (i + 1)) (sc xs (i + 2)) wM).bind fun m3 => (p_X9_thrown m3.2).bind fun m4 => if eq32 m4.1 z1.1 = true then (if eq32 z1.1 0 = true then (if eq32 (lcm64 (gA z1.2.2 34 0) (w32 m3.1)) 0 = true then (some (z1.2.1, z1.2.2, m4.2)) else (none)) else (some (z1.2.1, z1.2.2, m4.2))) else (none)
def p_op_7 (xs : Nat → Int32) (i : Int) (na : Nat) (wC wM : Wd) : Option (Nat × Wd × Wd) := (p_L_word (sc xs (i + 1)) (sc xs (i + 2)) na wC).bind fun z1 => (p_X9_word (sc xs (i + 1)) (sc xs (i + 2)) wM).bind fun m3 => (p_X9_thrown m3.2).bind fun m4 => if eq32 m4.1 z1.1 = true then (if eq32 z1.1 0 = true then (if eq32 (lcm64 (gA z1.2.2 34 0) (w32 m3.1)) 0 = true then (some (z1.2.1, z1.2.2, m4.2)) else (none)) else (some (z1.2.1, z1.2.2, m4.2))) else (none)
def p_op_8 (xs : Nat → Int32) (i : Int) (na : Nat) (wC wM : Wd) : Option (Nat × Wd × Wd) := (p_L_letter (sc xs (i + 1)) (sc xs (i + 2)) na wC).bind fun z1 => (p_X9_letter (sc xs (i + 1)) (sc xs (i + 2)) wM).bind fun m3 => (p_X9_thrown m3.2).bind fun m4 => if eq32 m4.1 z1.1 = true then (if eq32 z1.1 0 = true then (if eq32 (lcm64 (gA z1.2.2 34 0) (w32 m3.1)) 0 = true then (some (z1.2.1, z1.2.2, m4.2)) else (none)) else (some (z1.2.1, z1.2.2, m4.2))) else (none)
def p_op_9 (xs : Nat → Int32) (i : Int) (na : Nat) (wC wM : Wd) : Option (Nat × Wd × Wd) := (p_L_cell (sc xs (i + 1)) (sc xs (i + 2)) na wC).bind fun z1 => (p_X9_cell (sc xs (i + 1)) (sc xs (i + 2)) wM).bind fun m3 => (p_X9_thrown m3.2).bind fun m4 => if eq32 m4.1 z1.1 = true then (if eq32 z1.1 0 = true then (if eq32 (lcm64 (gA z1.2.2 34 0) (w32 m3.1)) 0 = true then (some (z1.2.1, z1.2.2, m4.2)) else (none)) else (some (z1.2.1, z1.2.2, m4.2))) else (none)
def p_op_10 (xs : Nat → Int32) (i : Int) (na : Nat) (wC wM : Wd) : Option (Nat × Wd × Wd) := (p_L_wordAt (sc xs (i + 1)) (sc xs (i + 2)) na wC).bind fun z1 => (p_X9_wordAt (sc xs (i + 1)) (sc xs (i + 2)) wM).bind fun m3 => (p_X9_thrown m3.2).bind fun m4 => if eq32 m4.1 z1.1 = true then (if eq32 z1.1 0 = true then (if eq32 (lcm64 (gA z1.2.2 34 0) (w32 m3.1)) 0 = true then (some (z1.2.1, z1.2.2, m4.2)) else (none)) else (some (z1.2.1, z1.2.2, m4.2))) else (none)
def p_op_11 (xs : Nat → Int32) (i : Int) (na : Nat) (wC wM : Wd) : Option (Nat × Wd × Wd) := (p_L_freeIn (sc xs (i + 1)) na wC).bind fun z1 => (p_X9_freeIn (sc xs (i + 1)) wM).bind fun m3 => (p_X9_thrown m3.2).bind fun m4 => if eq32 m4.1 z1.1 = true then (if eq32 z1.1 0 = true then (if eq32 (lcm64 (gA z1.2.2 34 0) (w32 m3.1)) 0 = true then (some (z1.2.1, z1.2.2, m4.2)) else (none)) else (some (z1.2.1, z1.2.2, m4.2))) else (none)
def p_op_12 (xs : Nat → Int32) (i : Int) (na : Nat) (wC wM : Wd) : Option (Nat × Wd × Wd) := (p_L_longestRun (sc xs (i + 1)) na wC).bind fun z1 => (p_X9_longestRun (sc xs (i + 1)) wM).bind fun m3 => (p_X9_thrown m3.2).bind fun m4 => if eq32 m4.1 z1.1 = true then (if eq32 z1.1 0 = true then (if eq32 (lcm64 (gA z1.2.2 34 0) (w32 m3.1)) 0 = true then (some (z1.2.1, z1.2.2, m4.2)) else (none)) else (some (z1.2.1, z1.2.2, m4.2))) else (none)
def p_op_13 (xs : Nat → Int32) (i : Int) (na : Nat) (wC wM : Wd) : Option (Nat × Wd × Wd) := (p_X8_rowsUsed wC).bind fun m1 => (p_X9_rowsUsed wM).bind fun m2 => if eq32 m1.1 m2.1 = true then (some (na, m1.2, m2.2)) else (none)
def p_op_14 (xs : Nat → Int32) (i : Int) (na : Nat) (wC wM : Wd) : Option (Nat × Wd × Wd) := (p_X8_firstMissing wC).bind fun m1 => (p_X9_firstMissing wM).bind fun m2 => if eq32 m1.1 m2.1 = true then (some (na, m1.2, m2.2)) else (none)
def p_op_15 (xs : Nat → Int32) (i : Int) (na : Nat) (wC wM : Wd) : Option (Nat × Wd × Wd) := (p_X8_strokesLeft wC).bind fun m1 => (p_X9_strokesLeft wM).bind fun m2 => if eq32 m1.1 m2.1 = true then (some (na, m1.2, m2.2)) else (none)
def p_op_16 (xs : Nat → Int32) (i : Int) (na : Nat) (wC wM : Wd) : Option (Nat × Wd × Wd) := (p_L_timeFor (sc xs (i + 1)) na wC).bind fun z1 => (p_X9_timeFor (sc xs (i + 1)) wM).bind fun m3 => (p_X9_thrown m3.2).bind fun m4 => if eq32 m4.1 z1.1 = true then (if eq32 z1.1 0 = true then (if eq32 (lcm64 (gA z1.2.2 34 0) (w32 m3.1)) 0 = true then (some (z1.2.1, z1.2.2, m4.2)) else (none)) else (some (z1.2.1, z1.2.2, m4.2))) else (none)
def p_op_17 (xs : Nat → Int32) (i : Int) (na : Nat) (wC wM : Wd) : Option (Nat × Wd × Wd) := (p_L_lettersIn (sc xs (i + 1)) na wC).bind fun z1 => (p_X9_lettersIn (sc xs (i + 1)) wM).bind fun m3 => (p_X9_thrown m3.2).bind fun m4 => if eq32 m4.1 z1.1 = true then (if eq32 z1.1 0 = true then (if eq32 (lcm64 (gA z1.2.2 34 0) (w32 m3.1)) 0 = true then (some (z1.2.1, z1.2.2, m4.2)) else (none)) else (some (z1.2.1, z1.2.2, m4.2))) else (none)
def p_op_18 (xs : Nat → Int32) (i : Int) (na : Nat) (wC wM : Wd) : Option (Nat × Wd × Wd) := (p_X8_sharpenings wC).bind fun m1 => (p_X9_sharpenings wM).bind fun m2 => if eq32 m1.1 m2.1 = true then (some (na, m1.2, m2.2)) else (none)
def p_op_19 (xs : Nat → Int32) (i : Int) (na : Nat) (wC wM : Wd) : Option (Nat × Wd × Wd) := (p_L_timeWith (sc xs (i + 1)) na wC).bind fun z1 => (p_X9_timeWith (sc xs (i + 1)) wM).bind fun m3 => (p_X9_thrown m3.2).bind fun m4 => if eq32 m4.1 z1.1 = true then (if eq32 z1.1 0 = true then (if eq32 (lcm64 (gA z1.2.2 34 0) (w32 m3.1)) 0 = true then (some (z1.2.1, z1.2.2, m4.2)) else (none)) else (some (z1.2.1, z1.2.2, m4.2))) else (none)
def p_op_20 (xs : Nat → Int32) (i : Int) (na : Nat) (wC wM : Wd) : Option (Nat × Wd × Wd) := (p_X8_nextCell wC).bind fun m1 => (p_X9_nextCell wM).bind fun m2 => if eq32 m1.1 m2.1 = true then (some (na, m1.2, m2.2)) else (none)
def p_op_21 (xs : Nat → Int32) (i : Int) (na : Nat) (wC wM : Wd) : Option (Nat × Wd × Wd) := (p_L_laidIf (sc xs (i + 1)) (sc xs (i + 2)) na wC).bind fun z1 => (p_X9_laidIf (sc xs (i + 1)) (sc xs (i + 2)) wM).bind fun m3 => (p_X9_thrown m3.2).bind fun m4 => if eq32 m4.1 z1.1 = true then (if eq32 z1.1 0 = true then (if eq32 (lcm64 (gA z1.2.2 34 0) (w32 m3.1)) 0 = true then (some (z1.2.1, z1.2.2, m4.2)) else (none)) else (some (z1.2.1, z1.2.2, m4.2))) else (none)
def p_op_22 (xs : Nat → Int32) (i : Int) (na : Nat) (wC wM : Wd) : Option (Nat × Wd × Wd) := (p_X8_worstFlaw wC).bind fun m1 => (p_X9_worstFlaw wM).bind fun m2 => if eq32 m1.1 m2.1 = true then (some (na, m1.2, m2.2)) else (none)
def p_op_23 (xs : Nat → Int32) (i : Int) (na : Nat) (wC wM : Wd) : Option (Nat × Wd × Wd) := (p_X8_laidWithout wC).bind fun m1 => (p_X9_laidWithout wM).bind fun m2 => if eq32 m1.1 m2.1 = true then (some (na, m1.2, m2.2)) else (none)
def p_op_24 (xs : Nat → Int32) (i : Int) (na : Nat) (wC wM : Wd) : Option (Nat × Wd × Wd) := (p_L_laidWith (sc xs (i + 1)) na wC).bind fun z1 => (p_X9_laidWith (sc xs (i + 1)) wM).bind fun m3 => (p_X9_thrown m3.2).bind fun m4 => if eq32 m4.1 z1.1 = true then (if eq32 z1.1 0 = true then (if eq32 (lcm64 (gA z1.2.2 34 0) (w32 m3.1)) 0 = true then (some (z1.2.1, z1.2.2, m4.2)) else (none)) else (some (z1.2.1, z1.2.2, m4.2))) else (none)
def p_op_25 (xs : Nat → Int32) (i : Int) (na : Nat) (wC wM : Wd) : Option (Nat × Wd × Wd) := (p_X8_laidTurned wC).bind fun m1 => (p_X9_laidTurned wM).bind fun m2 => if eq32 m1.1 m2.1 = true then (some (na, m1.2, m2.2)) else (none)
def p_op_26 (xs : Nat → Int32) (i : Int) (na : Nat) (wC wM : Wd) : Option (Nat × Wd × Wd) := (p_X8_leastRows wC).bind fun m1 => (p_X9_leastRows wM).bind fun m2 => if eq32 m1.1 m2.1 = true then (some (na, m1.2, m2.2)) else (none)
def p_op_27 (xs : Nat → Int32) (i : Int) (na : Nat) (wC wM : Wd) : Option (Nat × Wd × Wd) := (p_L_laidBut (sc xs (i + 1)) na wC).bind fun z1 => (p_X9_laidBut (sc xs (i + 1)) wM).bind fun m3 => (p_X9_thrown m3.2).bind fun m4 => if eq32 m4.1 z1.1 = true then (if eq32 z1.1 0 = true then (if eq32 (lcm64 (gA z1.2.2 34 0) (w32 m3.1)) 0 = true then (some (z1.2.1, z1.2.2, m4.2)) else (none)) else (some (z1.2.1, z1.2.2, m4.2))) else (none)
def p_op_28 (xs : Nat → Int32) (i : Int) (na : Nat) (wC wM : Wd) : Option (Nat × Wd × Wd) := (p_L_bestPlace (sc xs (i + 1)) na wC).bind fun z1 => (p_X9_bestPlace (sc xs (i + 1)) wM).bind fun m3 => (p_X9_thrown m3.2).bind fun m4 => if eq32 m4.1 z1.1 = true then (if eq32 z1.1 0 = true then (if eq32 (lcm64 (gA z1.2.2 34 0) (w32 m3.1)) 0 = true then (some (z1.2.1, z1.2.2, m4.2)) else (none)) else (some (z1.2.1, z1.2.2, m4.2))) else (none)
def p_op_29 (xs : Nat → Int32) (i : Int) (na : Nat) (wC wM : Wd) : Option (Nat × Wd × Wd) := (p_X8_touching wC).bind fun m1 => (p_X9_touching wM).bind fun m2 => if eq32 m1.1 m2.1 = true then (some (na, m1.2, m2.2)) else (none)
def p_op_30 (xs : Nat → Int32) (i : Int) (na : Nat) (wC wM : Wd) : Option (Nat × Wd × Wd) := (p_X8_dear wC).bind fun m1 => (p_X9_dear wM).bind fun m2 => if eq32 m1.1 m2.1 = true then (some (na, m1.2, m2.2)) else (none)
def p_op_31 (xs : Nat → Int32) (i : Int) (na : Nat) (wC wM : Wd) : Option (Nat × Wd × Wd) := (p_X8_carvedShare wC).bind fun m1 => (fdd m1.1).bind fun v2 => (p_X9_carvedShare wM).bind fun m3 => (fdd m3.1).bind fun v4 => if eq32 (dcm v2 v4) 0 = true then (some (na, m1.2, m3.2)) else (if eq32 (dcm v2 v2) 0 = true then (none) else (if eq32 (dcm v4 v4) 0 = true then (none) else (some (na, m1.2, m3.2))))
def p_op_32 (xs : Nat → Int32) (i : Int) (na : Nat) (wC wM : Wd) : Option (Nat × Wd × Wd) := (p_X8_meanStrokes wC).bind fun m1 => (p_X9_meanStrokes wM).bind fun m2 => if eq32 (dcm m1.1 m2.1) 0 = true then (some (na, m1.2, m2.2)) else (if eq32 (dcm m1.1 m1.1) 0 = true then (none) else (if eq32 (dcm m2.1 m2.1) 0 = true then (none) else (some (na, m1.2, m2.2))))
def p_op_33 (xs : Nat → Int32) (i : Int) (na : Nat) (wC wM : Wd) : Option (Nat × Wd × Wd) := (p_X8_density wC).bind fun m1 => (p_X9_density wM).bind fun m2 => if eq32 (dcm m1.1 m2.1) 0 = true then (some (na, m1.2, m2.2)) else (if eq32 (dcm m1.1 m1.1) 0 = true then (none) else (if eq32 (dcm m2.1 m2.1) 0 = true then (none) else (some (na, m1.2, m2.2))))
def p_op_34 (xs : Nat → Int32) (i : Int) (na : Nat) (wC wM : Wd) : Option (Nat × Wd × Wd) := (p_L_addPart (sc xs (i + 1)) na wC).bind fun z1 => (p_X9_addPart (sc xs (i + 1)) wM).bind fun m3 => (p_X9_thrown m3.2).bind fun m4 => if eq32 m4.1 z1.1 = true then (if eq32 z1.1 0 = true then (if eq32 (lcm64 (gA z1.2.2 34 0) (w32 m3.1)) 0 = true then (some (z1.2.1, z1.2.2, m4.2)) else (none)) else (some (z1.2.1, z1.2.2, m4.2))) else (none)
def p_op_35 (xs : Nat → Int32) (i : Int) (na : Nat) (wC wM : Wd) : Option (Nat × Wd × Wd) := (p_L_dropPart (sc xs (i + 1)) na wC).bind fun z1 => (p_X9_dropPart (sc xs (i + 1)) wM).bind fun m3 => (p_X9_thrown m3.2).bind fun m4 => if eq32 m4.1 z1.1 = true then (if eq32 z1.1 0 = true then (if eq32 (lcm64 (gA z1.2.2 34 0) (w32 m3.1)) 0 = true then (some (z1.2.1, z1.2.2, m4.2)) else (none)) else (some (z1.2.1, z1.2.2, m4.2))) else (none)
def p_op_36 (xs : Nat → Int32) (i : Int) (na : Nat) (wC wM : Wd) : Option (Nat × Wd × Wd) := (p_L_movePart (sc xs (i + 1)) (sc xs (i + 2)) na wC).bind fun z1 => (p_X9_movePart (sc xs (i + 1)) (sc xs (i + 2)) wM).bind fun m3 => (p_X9_thrown m3.2).bind fun m4 => if eq32 m4.1 z1.1 = true then (if eq32 z1.1 0 = true then (if eq32 (lcm64 (gA z1.2.2 34 0) (w32 m3.1)) 0 = true then (some (z1.2.1, z1.2.2, m4.2)) else (none)) else (some (z1.2.1, z1.2.2, m4.2))) else (none)
def p_op_37 (xs : Nat → Int32) (i : Int) (na : Nat) (wC wM : Wd) : Option (Nat × Wd × Wd) := if eq32 (sc xs (i + 3)) 0 = true then ((p_L_setFlaw (sc xs (i + 1)) (sc xs (i + 2)) 0 na wC).bind fun z1 => if eq32 (sc xs (i + 3)) 0 = true then ((p_X9_setFlaw (sc xs (i + 1)) (sc xs (i + 2)) 0 wM).bind fun m3 => (p_X9_thrown m3.2).bind fun m4 => if eq32 m4.1 z1.1 = true then (if eq32 z1.1 0 = true then (if eq32 m3.1 0 = true then (if eq32 (lcm64 (gA z1.2.2 34 0) 0) 0 = true then (some (z1.2.1, z1.2.2, m4.2)) else (none)) else (if eq32 (lcm64 (gA z1.2.2 34 0) 1) 0 = true then (some (z1.2.1, z1.2.2, m4.2)) else (none))) else (some (z1.2.1, z1.2.2, m4.2))) else (none)) else ((p_X9_setFlaw (sc xs (i + 1)) (sc xs (i + 2)) 1 wM).bind fun m5 => (p_X9_thrown m5.2).bind fun m6 => if eq32 m6.1 z1.1 = true then (if eq32 z1.1 0 = true then (if eq32 m5.1 0 = true then (if eq32 (lcm64 (gA z1.2.2 34 0) 0) 0 = true then (some (z1.2.1, z1.2.2, m6.2)) else (none)) else (if eq32 (lcm64 (gA z1.2.2 34 0) 1) 0 = true then (some (z1.2.1, z1.2.2, m6.2)) else (none))) else (some (z1.2.1, z1.2.2, m6.2))) else (none))) else ((p_L_setFlaw (sc xs (i + 1)) (sc xs (i + 2)) 1 na wC).bind fun z7 => if eq32 (sc xs (i + 3)) 0 = true then ((p_X9_setFlaw (sc xs (i + 1)) (sc xs (i + 2)) 0 wM).bind fun m9 => (p_X9_thrown m9.2).bind fun m10 => if eq32 m10.1 z7.1 = true then (if eq32 z7.1 0 = true then (if eq32 m9.1 0 = true then (if eq32 (lcm64 (gA z7.2.2 34 0) 0) 0 = true then (some (z7.2.1, z7.2.2, m10.2)) else (none)) else (if eq32 (lcm64 (gA z7.2.2 34 0) 1) 0 = true then (some (z7.2.1, z7.2.2, m10.2)) else (none))) else (some (z7.2.1, z7.2.2, m10.2))) else (none)) else ((p_X9_setFlaw (sc xs (i + 1)) (sc xs (i + 2)) 1 wM).bind fun m11 => (p_X9_thrown m11.2).bind fun m12 => if eq32 m12.1 z7.1 = true then (if eq32 z7.1 0 = true then (if eq32 m11.1 0 = true then (if eq32 (lcm64 (gA z7.2.2 34 0) 0) 0 = true then (some (z7.2.1, z7.2.2, m12.2)) else (none)) else (if eq32 (lcm64 (gA z7.2.2 34 0) 1) 0 = true then (some (z7.2.1, z7.2.2, m12.2)) else (none))) else (some (z7.2.1, z7.2.2, m12.2))) else (none)))
def p_op_38 (xs : Nat → Int32) (i : Int) (na : Nat) (wC wM : Wd) : Option (Nat × Wd × Wd) := (p_L_setGap (sc xs (i + 1)) na wC).bind fun z1 => (p_X9_setGap (sc xs (i + 1)) wM).bind fun m3 => (p_X9_thrown m3.2).bind fun m4 => if eq32 m4.1 z1.1 = true then (if eq32 z1.1 0 = true then (if eq32 (lcm64 (gA z1.2.2 34 0) (w32 m3.1)) 0 = true then (some (z1.2.1, z1.2.2, m4.2)) else (none)) else (some (z1.2.1, z1.2.2, m4.2))) else (none)
def p_op_39 (xs : Nat → Int32) (i : Int) (na : Nat) (wC wM : Wd) : Option (Nat × Wd × Wd) := (p_L_turnSlab  na wC).bind fun z1 => (p_X9_turnSlab wM).bind fun m3 => (p_X9_thrown m3.2).bind fun m4 => if eq32 m4.1 z1.1 = true then (if eq32 z1.1 0 = true then (if eq32 (lcm64 (gA z1.2.2 34 0) (w32 m3.1)) 0 = true then (some (z1.2.1, z1.2.2, m4.2)) else (none)) else (some (z1.2.1, z1.2.2, m4.2))) else (none)
def p_op_40 (xs : Nat → Int32) (i : Int) (na : Nat) (wC wM : Wd) : Option (Nat × Wd × Wd) := if eq32 (sc xs (i + 2)) 0 = true then ((p_L_cutRows (sc xs (i + 1)) 0 na wC).bind fun z1 => if eq32 (sc xs (i + 2)) 0 = true then ((p_X9_cutRows (sc xs (i + 1)) 0 wM).bind fun m3 => (p_X9_thrown m3.2).bind fun m4 => if eq32 m4.1 z1.1 = true then (if eq32 z1.1 0 = true then (if eq32 (lcm64 (gA z1.2.2 34 0) (w32 m3.1)) 0 = true then (some (z1.2.1, z1.2.2, m4.2)) else (none)) else (some (z1.2.1, z1.2.2, m4.2))) else (none)) else ((p_X9_cutRows (sc xs (i + 1)) 1 wM).bind fun m5 => (p_X9_thrown m5.2).bind fun m6 => if eq32 m6.1 z1.1 = true then (if eq32 z1.1 0 = true then (if eq32 (lcm64 (gA z1.2.2 34 0) (w32 m5.1)) 0 = true then (some (z1.2.1, z1.2.2, m6.2)) else (none)) else (some (z1.2.1, z1.2.2, m6.2))) else (none))) else ((p_L_cutRows (sc xs (i + 1)) 1 na wC).bind fun z7 => if eq32 (sc xs (i + 2)) 0 = true then ((p_X9_cutRows (sc xs (i + 1)) 0 wM).bind fun m9 => (p_X9_thrown m9.2).bind fun m10 => if eq32 m10.1 z7.1 = true then (if eq32 z7.1 0 = true then (if eq32 (lcm64 (gA z7.2.2 34 0) (w32 m9.1)) 0 = true then (some (z7.2.1, z7.2.2, m10.2)) else (none)) else (some (z7.2.1, z7.2.2, m10.2))) else (none)) else ((p_X9_cutRows (sc xs (i + 1)) 1 wM).bind fun m11 => (p_X9_thrown m11.2).bind fun m12 => if eq32 m12.1 z7.1 = true then (if eq32 z7.1 0 = true then (if eq32 (lcm64 (gA z7.2.2 34 0) (w32 m11.1)) 0 = true then (some (z7.2.1, z7.2.2, m12.2)) else (none)) else (some (z7.2.1, z7.2.2, m12.2))) else (none)))
def p_op_41 (xs : Nat → Int32) (i : Int) (na : Nat) (wC wM : Wd) : Option (Nat × Wd × Wd) := (p_L_carve (sc xs (i + 1)) na wC).bind fun z1 => (p_X9_carve (sc xs (i + 1)) wM).bind fun m3 => (p_X9_thrown m3.2).bind fun m4 => if eq32 m4.1 z1.1 = true then (if eq32 z1.1 0 = true then (if eq32 (lcm64 (gA z1.2.2 34 0) (w32 m3.1)) 0 = true then (some (z1.2.1, z1.2.2, m4.2)) else (none)) else (some (z1.2.1, z1.2.2, m4.2))) else (none)
def p_op_42 (xs : Nat → Int32) (i : Int) (na : Nat) (wC wM : Wd) : Option (Nat × Wd × Wd) := (p_X8_sharpen na wC).bind fun z1 => inlO z1 fun rz1 => (p_X9_sharpen wM).bind fun m3 => if eq32 rz1 m3.1 = true then (some (z1.2.1, z1.2.2, m3.2)) else (none)
def p_op_43 (xs : Nat → Int32) (i : Int) (na : Nat) (wC wM : Wd) : Option (Nat × Wd × Wd) := (p_L_setChisel (sc xs (i + 1)) (sc xs (i + 2)) na wC).bind fun z1 => (p_X9_setChisel (sc xs (i + 1)) (sc xs (i + 2)) wM).bind fun m3 => (p_X9_thrown m3.2).bind fun m4 => if eq32 m4.1 z1.1 = true then (if eq32 z1.1 0 = true then (if eq32 (lcm64 (gA z1.2.2 34 0) (w32 m3.1)) 0 = true then (some (z1.2.1, z1.2.2, m4.2)) else (none)) else (some (z1.2.1, z1.2.2, m4.2))) else (none)
def p_op_44 (xs : Nat → Int32) (i : Int) (na : Nat) (wC wM : Wd) : Option (Nat × Wd × Wd) := (p_L_keep (sc xs (i + 1)) na wC).bind fun z1 => (p_X9_keep (sc xs (i + 1)) wM).bind fun m3 => (p_X9_thrown m3.2).bind fun m4 => if eq32 m4.1 z1.1 = true then (if eq32 z1.1 0 = true then (if eq32 (lcm64 (gA z1.2.2 34 0) (w32 m3.1)) 0 = true then (some (z1.2.1, z1.2.2, m4.2)) else (none)) else (some (z1.2.1, z1.2.2, m4.2))) else (none)
def p_op_45 (xs : Nat → Int32) (i : Int) (na : Nat) (wC wM : Wd) : Option (Nat × Wd × Wd) := (p_L_restore (sc xs (i + 1)) na wC).bind fun z1 => (p_X9_restore (sc xs (i + 1)) wM).bind fun m3 => (p_X9_thrown m3.2).bind fun m4 => if eq32 m4.1 z1.1 = true then (if eq32 z1.1 0 = true then (if eq32 (lcm64 (gA z1.2.2 34 0) (w32 m3.1)) 0 = true then (some (z1.2.1, z1.2.2, m4.2)) else (none)) else (some (z1.2.1, z1.2.2, m4.2))) else (none)
def p_op_46 (xs : Nat → Int32) (i : Int) (na : Nat) (wC wM : Wd) : Option (Nat × Wd × Wd) := (p_L_undo  na wC).bind fun z1 => (p_X9_undo wM).bind fun m3 => (p_X9_thrown m3.2).bind fun m4 => if eq32 m4.1 z1.1 = true then (if eq32 z1.1 0 = true then (if eq32 (lcm64 (gA z1.2.2 34 0) (w32 m3.1)) 0 = true then (some (z1.2.1, z1.2.2, m4.2)) else (none)) else (some (z1.2.1, z1.2.2, m4.2))) else (none)
def p_op_47 (xs : Nat → Int32) (i : Int) (na : Nat) (wC wM : Wd) : Option (Nat × Wd × Wd) := (p_X8_undoCount wC).bind fun m1 => (p_X9_undoCount wM).bind fun m2 => if eq32 m1.1 m2.1 = true then (some (na, m1.2, m2.2)) else (none)
def p_op_48 (xs : Nat → Int32) (i : Int) (na : Nat) (wC wM : Wd) : Option (Nat × Wd × Wd) := (p_L_writeRow (sc xs (i + 1)) na wC).bind fun z1 => (p_X9_writeRow (sc xs (i + 1)) wM).bind fun m3 => (p_X9_thrown m3.2).bind fun m4 => if eq32 m4.1 z1.1 = true then (if eq32 z1.1 0 = true then (if eq32 (lcm64 (gA z1.2.2 34 0) (w32 m3.1)) 0 = true then (some (z1.2.1, z1.2.2, m4.2)) else (none)) else (some (z1.2.1, z1.2.2, m4.2))) else (none)
def p_op_49 (xs : Nat → Int32) (i : Int) (na : Nat) (wC wM : Wd) : Option (Nat × Wd × Wd) := (p_L_writePart (sc xs (i + 1)) na wC).bind fun z1 => (p_X9_writePart (sc xs (i + 1)) wM).bind fun m3 => (p_X9_thrown m3.2).bind fun m4 => if eq32 m4.1 z1.1 = true then (if eq32 z1.1 0 = true then (if eq32 (lcm64 (gA z1.2.2 34 0) (w32 m3.1)) 0 = true then (some (z1.2.1, z1.2.2, m4.2)) else (none)) else (some (z1.2.1, z1.2.2, m4.2))) else (none)
def p_op_50 (xs : Nat → Int32) (i : Int) (na : Nat) (wC wM : Wd) : Option (Nat × Wd × Wd) := (p_L_outputByte (sc xs (i + 1)) na wC).bind fun z1 => (p_X9_outputByte (sc xs (i + 1)) wM).bind fun m3 => (p_X9_thrown m3.2).bind fun m4 => if eq32 m4.1 z1.1 = true then (if eq32 z1.1 0 = true then (if eq32 (lcm64 (gA z1.2.2 34 0) (w32 m3.1)) 0 = true then (some (z1.2.1, z1.2.2, m4.2)) else (none)) else (some (z1.2.1, z1.2.2, m4.2))) else (none)
theorem L_op_0 {g : Cx} {ret9 : Option FieldType} (C : CX g cL_law 9 ret9 RL) (hfl : g.l.stackTraces = false) (hA : ∀ q : Nat, g.s.heap.size ≤ q → g.A q) (hR : g.R = room_1) (hNC : NC3 g.s) {b L : Nat} {xs : Nat → Int32} (hX : va_X b L xs g.s g.s.heap) (hb : b < g.s.heap.size) (hbA : ¬ g.A b) (hL : L ≤ 3072) {i : Int} (hi : 0 ≤ i ∧ i + 5 < L) {d : Dl} {adM : Nat → Nat} {wC wM : Wd} (hce : d.ce + 15 ≤ MCL ∧ d.so + 852 ≤ MSL) {res : Nat × Wd × Wd} (hq : p_op_0 xs i d.na wC wM = some res)
    (K : ∀ (d1 : Dl) (w1 w2 : Wd), AG d.na d.ad d1 → d1.ce ≤ d.ce + 15 → d1.so ≤ d.so + 852 → some (d1.na, w1, w2) = some res → XG g d1 (hQ g d1 adM w1 w2) [(0, .ref b), (1, .ref (d1.ad 1)), (2, .ref (adM 50)), (3, .ref (d1.ad 34)), (4, iV i)] [] 2560) :
    XG g d (hQ g d adM wC wM) [(0, .ref b), (1, .ref (d.ad 1)), (2, .ref (adM 50)), (3, .ref (d.ad 34)), (4, iV i)] [] 260 := by
  unfold p_op_0 at hq
  refine x_aload_n C 1 dL_law_260 rfl ?_
  refine x_aload_n C 0 dL_law_261 rfl ?_
  refine x_iload C 4 dL_law_262 rfl ?_
  refine x_iconst C dL_law_264 ?_
  refine x_iadd C dL_law_265 ?_
  refine q_sld C hX hb hbA ⟨by omega, by omega⟩ hL dL_law_266 ?_
  refine x_aload_n C 0 dL_law_267 rfl ?_
  refine x_iload C 4 dL_law_268 rfl ?_
  refine x_iconst C dL_law_270 ?_
  refine x_iadd C dL_law_271 ?_
  refine q_sld C hX hb hbA ⟨by omega, by omega⟩ hL dL_law_272 ?_
  refine x_aload_n C 0 dL_law_273 rfl ?_
  refine x_iload C 4 dL_law_274 rfl ?_
  refine x_iconst C dL_law_276 ?_
  refine x_iadd C dL_law_277 ?_
  refine q_sld C hX hb hbA ⟨by omega, by omega⟩ hL dL_law_278 ?_
  refine x_aload_n C 0 dL_law_279 rfl ?_
  refine x_iload C 4 dL_law_280 rfl ?_
  refine x_iconst C dL_law_282 ?_
  refine x_iadd C dL_law_283 ?_
  refine q_sld C hX hb hbA ⟨by omega, by omega⟩ hL dL_law_284 ?_
  refine x_aload_n C 0 dL_law_285 rfl ?_
  refine x_iload C 4 dL_law_286 rfl ?_
  refine x_iconst C dL_law_288 ?_
  refine x_iadd C dL_law_289 ?_
  refine q_sld C hX hb hbA ⟨by omega, by omega⟩ hL dL_law_290 ?_
  refine x_aload_n C 3 dL_law_291 rfl ?_
  refine q_wr (mc' := 1) (ms' := 6) (rm := rmv 7 114 1 6) (As := [.ref (d.ad 1), iV (sc xs (i + 1)), iV (sc xs (i + 2)), iV (sc xs (i + 3)), iV (sc xs (i + 4)), iV (sc xs (i + 5)), .ref (d.ad 34)]) (rest := []) C hA hR hNC mfL_append lk_L_124 ⟨rfl, rfl⟩ ⟨Nat.le_of_ble_eq_true rfl, Nat.le_of_ble_eq_true rfl⟩ rfl rfl (Nat.le_of_ble_eq_true rfl) (lq hce (by decide) (by decide)) dL_law_292 hq (fun _ h => c_L_append g.l g.G hfl h) (fun z1 d2 _ hq agd2 hn hc1 hc2 => ?_)
  have e1 := agq1 agd2; have e3 := agq3 agd2; rw [e1, e3]; rw [← hn] at hq
  refine x_istore C dL_law_295 (by decide) rfl ?_
  refine x_aload_n C 3 dL_law_297 rfl ?_
  refine x_aload_n C 1 dL_law_298 rfl ?_
  refine x_iload C 5 dL_law_299 rfl ?_
  refine x_iconst C dL_law_301 ?_
  refine x_iadd C dL_law_302 ?_
  refine q_sld C hX hb hbA ⟨by omega, by omega⟩ hL dL_law_303 ?_
  refine x_aload_n C 1 dL_law_304 rfl ?_
  refine x_iload C 5 dL_law_305 rfl ?_
  refine x_iconst C dL_law_307 ?_
  refine x_iadd C dL_law_308 ?_
  refine q_sld C hX hb hbA ⟨by omega, by omega⟩ hL dL_law_309 ?_
  refine x_aload_n C 1 dL_law_310 rfl ?_
  refine x_iload C 5 dL_law_311 rfl ?_
  refine x_iconst C dL_law_313 ?_
  refine x_iadd C dL_law_314 ?_
  refine q_sld C hX hb hbA ⟨by omega, by omega⟩ hL dL_law_315 ?_
  refine x_aload_n C 1 dL_law_316 rfl ?_
  refine x_iload C 5 dL_law_317 rfl ?_
  refine x_iconst C dL_law_319 ?_
  refine x_iadd C dL_law_320 ?_
  refine q_sld C hX hb hbA ⟨by omega, by omega⟩ hL dL_law_321 ?_
  refine x_aload_n C 1 dL_law_322 rfl ?_
  refine x_iload C 5 dL_law_323 rfl ?_
  refine x_iconst C dL_law_325 ?_
  refine x_iadd C dL_law_326 ?_
  refine q_sld C hX hb hbA ⟨by omega, by omega⟩ hL dL_law_327 ?_
  refine q_mI (rm := rmv 2 44 0 0) (K := 10) (o := 50) (As := [iV (sc xs (i + 1)), iV (sc xs (i + 2)), iV (sc xs (i + 3)), iV (sc xs (i + 4)), iV (sc xs (i + 5))]) (rest := []) C hA hR mf_X9_append lk_L_129 rfl ⟨rfl, rfl⟩ (by decide) ⟨rfl, rfl⟩ ⟨Nat.le_of_ble_eq_true rfl, Nat.le_of_ble_eq_true rfl⟩ rfl rfl (Nat.le_of_ble_eq_true rfl) (lq1 hce hc1 hc2 (by decide) (by decide)) dL_law_328 hq (fun _ _ h => c_X9_append g.l g.G rfl h) (fun rm3 wm3 _ hq => ?_)
  refine x_istore C dL_law_331 (by decide) rfl ?_
  refine x_aload_n C 4 dL_law_333 rfl ?_
  refine q_mI (rm := rmv 0 0 0 0) (K := 10) (o := 50) (As := []) (rest := []) C hA hR mf_X9_thrown lk_L_130 rfl ⟨rfl, rfl⟩ (by decide) ⟨rfl, rfl⟩ ⟨Nat.le_of_ble_eq_true rfl, Nat.le_of_ble_eq_true rfl⟩ rfl rfl (Nat.le_of_ble_eq_true rfl) (lq1 hce hc1 hc2 (by decide) (by decide)) dL_law_334 hq (fun _ _ h => c_X9_thrown g.l g.G rfl h) (fun rm4 wm4 _ hq => ?_)
  refine x_iload C 1 dL_law_337 rfl ?_
  refine x_icmp_eq (tgt := 344) C dL_law_339 (by decide) hq (fun hq => ?_) (fun hq => ?_)
  · refine x_iload C 1 dL_law_344 rfl ?_
    refine x_if_ne (tgt := 361) C dL_law_346 (by decide) hq (fun hq => ?_) (fun hq => ?_)
    · refine x_goto (tgt := 2560) C dL_law_361 (by decide) ?_
      refine XG.sub [2, 3, 4, 5, 6] rfl ?_
      exact K d2 _ _ (agd2) (lc hc1 (by decide)) (lc hc2 (by decide)) hq
    · refine x_aload_n C 5 dL_law_349 rfl ?_
      refine x_iconst C dL_law_350 ?_
      refine q_lald C (by decide) dL_law_351 ?_
      refine x_iload C 0 dL_law_352 rfl ?_
      refine x_i2l C dL_law_354 ?_
      refine x_lcmp C dL_law_355 ?_
      refine x_if_eq (tgt := 361) C dL_law_356 (by decide) hq (fun hq => ?_) (fun hq => ?_)
      · refine x_goto (tgt := 2560) C dL_law_361 (by decide) ?_
        refine XG.sub [2, 3, 4, 5, 6] rfl ?_
        exact K d2 _ _ (agd2) (lc hc1 (by decide)) (lc hc2 (by decide)) hq
      · exact nomatch hq
  · exact nomatch hq
theorem L_op_1 {g : Cx} {ret9 : Option FieldType} (C : CX g cL_law 9 ret9 RL) (hfl : g.l.stackTraces = false) (hA : ∀ q : Nat, g.s.heap.size ≤ q → g.A q) (hR : g.R = room_1) (hNC : NC3 g.s) {b L : Nat} {xs : Nat → Int32} (hX : va_X b L xs g.s g.s.heap) (hb : b < g.s.heap.size) (hbA : ¬ g.A b) (hL : L ≤ 3072) {i : Int} (hi : 0 ≤ i ∧ i + 5 < L) {d : Dl} {adM : Nat → Nat} {wC wM : Wd} (hce : d.ce + 15 ≤ MCL ∧ d.so + 852 ≤ MSL) {res : Nat × Wd × Wd} (hq : p_op_1 xs i d.na wC wM = some res)
    (K : ∀ (d1 : Dl) (w1 w2 : Wd), AG d.na d.ad d1 → d1.ce ≤ d.ce + 15 → d1.so ≤ d.so + 852 → some (d1.na, w1, w2) = some res → XG g d1 (hQ g d1 adM w1 w2) [(0, .ref b), (1, .ref (d1.ad 1)), (2, .ref (adM 50)), (3, .ref (d1.ad 34)), (4, iV i)] [] 2560) :
    XG g d (hQ g d adM wC wM) [(0, .ref b), (1, .ref (d.ad 1)), (2, .ref (adM 50)), (3, .ref (d.ad 34)), (4, iV i)] [] 364 := by
  unfold p_op_1 at hq
  refine x_aload_n C 1 dL_law_364 rfl ?_
  refine x_aload_n C 0 dL_law_365 rfl ?_
  refine x_iload C 4 dL_law_366 rfl ?_
  refine x_iconst C dL_law_368 ?_
  refine x_iadd C dL_law_369 ?_
  refine q_sld C hX hb hbA ⟨by omega, by omega⟩ hL dL_law_370 ?_
  refine q_wr (mc' := 1) (ms' := 6) (rm := rmv 7 110 1 6) (As := [.ref (d.ad 1), iV (sc xs (i + 1))]) (rest := []) C hA hR hNC mfL_truncate lk_L_133 ⟨rfl, rfl⟩ ⟨Nat.le_of_ble_eq_true rfl, Nat.le_of_ble_eq_true rfl⟩ rfl rfl (Nat.le_of_ble_eq_true rfl) (lq hce (by decide) (by decide)) dL_law_371 hq (fun _ h => c_L_truncate g.l g.G hfl h) (fun z1 d2 _ hq agd2 hn hc1 hc2 => ?_)
  have e1 := agq1 agd2; have e3 := agq3 agd2; rw [e1, e3]; rw [← hn] at hq
  refine x_istore C dL_law_374 (by decide) rfl ?_
  refine x_aload_n C 3 dL_law_376 rfl ?_
  refine x_aload_n C 1 dL_law_377 rfl ?_
  refine x_iload C 5 dL_law_378 rfl ?_
  refine x_iconst C dL_law_380 ?_
  refine x_iadd C dL_law_381 ?_
  refine q_sld C hX hb hbA ⟨by omega, by omega⟩ hL dL_law_382 ?_
  refine q_mV (rm := rmv 2 44 0 0) (K := 10) (o := 50) (As := [iV (sc xs (i + 1))]) (rest := []) C hA hR mf_X9_truncate lk_L_136 rfl ⟨rfl, rfl⟩ (by decide) ⟨rfl, rfl⟩ ⟨Nat.le_of_ble_eq_true rfl, Nat.le_of_ble_eq_true rfl⟩ rfl rfl (Nat.le_of_ble_eq_true rfl) (lq1 hce hc1 hc2 (by decide) (by decide)) dL_law_383 hq (fun _ h => c_X9_truncate g.l g.G rfl h) (fun m3 _ hq => ?_)
  refine x_aload_n C 3 dL_law_386 rfl ?_
  refine q_mI (rm := rmv 0 0 0 0) (K := 10) (o := 50) (As := []) (rest := []) C hA hR mf_X9_thrown lk_L_130 rfl ⟨rfl, rfl⟩ (by decide) ⟨rfl, rfl⟩ ⟨Nat.le_of_ble_eq_true rfl, Nat.le_of_ble_eq_true rfl⟩ rfl rfl (Nat.le_of_ble_eq_true rfl) (lq1 hce hc1 hc2 (by decide) (by decide)) dL_law_387 hq (fun _ _ h => c_X9_thrown g.l g.G rfl h) (fun rm4 wm4 _ hq => ?_)
  refine x_iload C 0 dL_law_390 rfl ?_
  refine x_icmp_eq (tgt := 397) C dL_law_392 (by decide) hq (fun hq => ?_) (fun hq => ?_)
  · refine x_goto (tgt := 2560) C dL_law_397 (by decide) ?_
    refine XG.sub [1, 2, 3, 4, 5] rfl ?_
    exact K d2 _ _ (agd2) (lc hc1 (by decide)) (lc hc2 (by decide)) hq
  · exact nomatch hq
theorem L_op_2 {g : Cx} {ret9 : Option FieldType} (C : CX g cL_law 9 ret9 RL) (hfl : g.l.stackTraces = false) (hA : ∀ q : Nat, g.s.heap.size ≤ q → g.A q) (hR : g.R = room_1) (hNC : NC3 g.s) {b L : Nat} {xs : Nat → Int32} (hX : va_X b L xs g.s g.s.heap) (hb : b < g.s.heap.size) (hbA : ¬ g.A b) (hL : L ≤ 3072) {i : Int} (hi : 0 ≤ i ∧ i + 5 < L) {d : Dl} {adM : Nat → Nat} {wC wM : Wd} (hce : d.ce + 15 ≤ MCL ∧ d.so + 852 ≤ MSL) {res : Nat × Wd × Wd} (hq : p_op_2 xs i d.na wC wM = some res)
    (K : ∀ (d1 : Dl) (w1 w2 : Wd), AG d.na d.ad d1 → d1.ce ≤ d.ce + 15 → d1.so ≤ d.so + 852 → some (d1.na, w1, w2) = some res → XG g d1 (hQ g d1 adM w1 w2) [(0, .ref b), (1, .ref (d1.ad 1)), (2, .ref (adM 50)), (3, .ref (d1.ad 34)), (4, iV i)] [] 2560) :
    XG g d (hQ g d adM wC wM) [(0, .ref b), (1, .ref (d.ad 1)), (2, .ref (adM 50)), (3, .ref (d.ad 34)), (4, iV i)] [] 400 := by
  unfold p_op_2 at hq
  refine x_aload_n C 1 dL_law_400 rfl ?_
  obtain ⟨z1, hz1, hq⟩ := Option.bind_eq_some_iff.mp hq
  obtain ⟨rz1, ez1, hq⟩ := inlO_some hq
  refine q_cG (mc' := 12) (ms' := 834) (rm := rmv 9 210 12 834) (K := 9) (o := 1) (As := []) (rest := []) (r0 := rz1) (na1 := z1.2.1) (w1 := z1.2.2) C hA hR mf_X8_load lk_L_137 rfl ⟨rfl, rfl⟩ (by decide) ⟨rfl, rfl⟩ ⟨Nat.le_of_ble_eq_true rfl, Nat.le_of_ble_eq_true rfl⟩ rfl rfl (Nat.le_of_ble_eq_true rfl) (lq hce (by decide) (by decide)) dL_law_401 (by rw [← ez1]; exact c_X8_load g.l g.G hfl rfl hz1) (fun d2 agd2 hn hc1 hc2 => ?_)
  have e1 := agq1 agd2; have e3 := agq3 agd2; rw [e1, e3]; rw [← hn] at hq
  refine x_aload_n C 2 dL_law_404 rfl ?_
  refine q_mI (rm := rmv 9 213 0 0) (K := 10) (o := 50) (As := []) (rest := [iV rz1]) C hA hR mf_X9_load lk_L_140 rfl ⟨rfl, rfl⟩ (by decide) ⟨rfl, rfl⟩ ⟨Nat.le_of_ble_eq_true rfl, Nat.le_of_ble_eq_true rfl⟩ rfl rfl (Nat.le_of_ble_eq_true rfl) (lq1 hce hc1 hc2 (by decide) (by decide)) dL_law_405 hq (fun _ _ h => c_X9_load g.l g.G rfl h) (fun rm3 wm3 _ hq => ?_)
  refine x_icmp_eq (tgt := 2560) C dL_law_408 (by decide) hq (fun hq => ?_) (fun hq => ?_)
  · exact K d2 _ _ (agd2) (lc hc1 (by decide)) (lc hc2 (by decide)) hq
  · exact nomatch hq
theorem L_op_3 {g : Cx} {ret9 : Option FieldType} (C : CX g cL_law 9 ret9 RL) (hfl : g.l.stackTraces = false) (hA : ∀ q : Nat, g.s.heap.size ≤ q → g.A q) (hR : g.R = room_1) (hNC : NC3 g.s) {b L : Nat} {xs : Nat → Int32} (hX : va_X b L xs g.s g.s.heap) (hb : b < g.s.heap.size) (hbA : ¬ g.A b) (hL : L ≤ 3072) {i : Int} (hi : 0 ≤ i ∧ i + 5 < L) {d : Dl} {adM : Nat → Nat} {wC wM : Wd} (hce : d.ce + 15 ≤ MCL ∧ d.so + 852 ≤ MSL) {res : Nat × Wd × Wd} (hq : p_op_3 xs i d.na wC wM = some res)
    (K : ∀ (d1 : Dl) (w1 w2 : Wd), AG d.na d.ad d1 → d1.ce ≤ d.ce + 15 → d1.so ≤ d.so + 852 → some (d1.na, w1, w2) = some res → XG g d1 (hQ g d1 adM w1 w2) [(0, .ref b), (1, .ref (d1.ad 1)), (2, .ref (adM 50)), (3, .ref (d1.ad 34)), (4, iV i)] [] 2560) :
    XG g d (hQ g d adM wC wM) [(0, .ref b), (1, .ref (d.ad 1)), (2, .ref (adM 50)), (3, .ref (d.ad 34)), (4, iV i)] [] 413 := by
  unfold p_op_3 at hq
  refine x_aload_n C 1 dL_law_413 rfl ?_
  refine q_cI (rm := rmv 0 0 0 0) (K := 9) (o := 1) (As := []) (rest := []) C hA hR mf_X8_errorCode lk_L_141 rfl ⟨rfl, rfl⟩ (by decide) ⟨rfl, rfl⟩ ⟨Nat.le_of_ble_eq_true rfl, Nat.le_of_ble_eq_true rfl⟩ rfl rfl (Nat.le_of_ble_eq_true rfl) (lq0 hce) dL_law_414 hq (fun _ _ h => c_X8_errorCode g.l g.G rfl h) (fun rm1 wm1 _ hq => ?_)
  refine x_aload_n C 2 dL_law_417 rfl ?_
  refine q_mI (rm := rmv 0 0 0 0) (K := 10) (o := 50) (As := []) (rest := [iV rm1]) C hA hR mf_X9_errorCode lk_L_144 rfl ⟨rfl, rfl⟩ (by decide) ⟨rfl, rfl⟩ ⟨Nat.le_of_ble_eq_true rfl, Nat.le_of_ble_eq_true rfl⟩ rfl rfl (Nat.le_of_ble_eq_true rfl) (lq0 hce) dL_law_418 hq (fun _ _ h => c_X9_errorCode g.l g.G rfl h) (fun rm2 wm2 _ hq => ?_)
  refine x_icmp_eq (tgt := 2560) C dL_law_421 (by decide) hq (fun hq => ?_) (fun hq => ?_)
  · exact K d _ _ (AG.rf _) (Nat.le_add_right _ _) (Nat.le_add_right _ _) hq
  · exact nomatch hq
theorem L_op_4 {g : Cx} {ret9 : Option FieldType} (C : CX g cL_law 9 ret9 RL) (hfl : g.l.stackTraces = false) (hA : ∀ q : Nat, g.s.heap.size ≤ q → g.A q) (hR : g.R = room_1) (hNC : NC3 g.s) {b L : Nat} {xs : Nat → Int32} (hX : va_X b L xs g.s g.s.heap) (hb : b < g.s.heap.size) (hbA : ¬ g.A b) (hL : L ≤ 3072) {i : Int} (hi : 0 ≤ i ∧ i + 5 < L) {d : Dl} {adM : Nat → Nat} {wC wM : Wd} (hce : d.ce + 15 ≤ MCL ∧ d.so + 852 ≤ MSL) {res : Nat × Wd × Wd} (hq : p_op_4 xs i d.na wC wM = some res)
    (K : ∀ (d1 : Dl) (w1 w2 : Wd), AG d.na d.ad d1 → d1.ce ≤ d.ce + 15 → d1.so ≤ d.so + 852 → some (d1.na, w1, w2) = some res → XG g d1 (hQ g d1 adM w1 w2) [(0, .ref b), (1, .ref (d1.ad 1)), (2, .ref (adM 50)), (3, .ref (d1.ad 34)), (4, iV i)] [] 2560) :
    XG g d (hQ g d adM wC wM) [(0, .ref b), (1, .ref (d.ad 1)), (2, .ref (adM 50)), (3, .ref (d.ad 34)), (4, iV i)] [] 426 := by
  unfold p_op_4 at hq
  refine x_aload_n C 1 dL_law_426 rfl ?_
  refine q_cI (rm := rmv 0 0 0 0) (K := 9) (o := 1) (As := []) (rest := []) C hA hR mf_X8_errorPosition lk_L_145 rfl ⟨rfl, rfl⟩ (by decide) ⟨rfl, rfl⟩ ⟨Nat.le_of_ble_eq_true rfl, Nat.le_of_ble_eq_true rfl⟩ rfl rfl (Nat.le_of_ble_eq_true rfl) (lq0 hce) dL_law_427 hq (fun _ _ h => c_X8_errorPosition g.l g.G rfl h) (fun rm1 wm1 _ hq => ?_)
  refine x_aload_n C 2 dL_law_430 rfl ?_
  refine q_mI (rm := rmv 0 0 0 0) (K := 10) (o := 50) (As := []) (rest := [iV rm1]) C hA hR mf_X9_errorPosition lk_L_148 rfl ⟨rfl, rfl⟩ (by decide) ⟨rfl, rfl⟩ ⟨Nat.le_of_ble_eq_true rfl, Nat.le_of_ble_eq_true rfl⟩ rfl rfl (Nat.le_of_ble_eq_true rfl) (lq0 hce) dL_law_431 hq (fun _ _ h => c_X9_errorPosition g.l g.G rfl h) (fun rm2 wm2 _ hq => ?_)
  refine x_icmp_eq (tgt := 2560) C dL_law_434 (by decide) hq (fun hq => ?_) (fun hq => ?_)
  · exact K d _ _ (AG.rf _) (Nat.le_add_right _ _) (Nat.le_add_right _ _) hq
  · exact nomatch hq
theorem L_op_5 {g : Cx} {ret9 : Option FieldType} (C : CX g cL_law 9 ret9 RL) (hfl : g.l.stackTraces = false) (hA : ∀ q : Nat, g.s.heap.size ≤ q → g.A q) (hR : g.R = room_1) (hNC : NC3 g.s) {b L : Nat} {xs : Nat → Int32} (hX : va_X b L xs g.s g.s.heap) (hb : b < g.s.heap.size) (hbA : ¬ g.A b) (hL : L ≤ 3072) {i : Int} (hi : 0 ≤ i ∧ i + 5 < L) {d : Dl} {adM : Nat → Nat} {wC wM : Wd} (hce : d.ce + 15 ≤ MCL ∧ d.so + 852 ≤ MSL) {res : Nat × Wd × Wd} (hq : p_op_5 xs i d.na wC wM = some res)
    (K : ∀ (d1 : Dl) (w1 w2 : Wd), AG d.na d.ad d1 → d1.ce ≤ d.ce + 15 → d1.so ≤ d.so + 852 → some (d1.na, w1, w2) = some res → XG g d1 (hQ g d1 adM w1 w2) [(0, .ref b), (1, .ref (d1.ad 1)), (2, .ref (adM 50)), (3, .ref (d1.ad 34)), (4, iV i)] [] 2560) :
    XG g d (hQ g d adM wC wM) [(0, .ref b), (1, .ref (d.ad 1)), (2, .ref (adM 50)), (3, .ref (d.ad 34)), (4, iV i)] [] 439 := by
  unfold p_op_5 at hq
  refine x_aload_n C 1 dL_law_439 rfl ?_
  refine x_aload_n C 0 dL_law_440 rfl ?_
  refine x_iload C 4 dL_law_441 rfl ?_
  refine x_iconst C dL_law_443 ?_
  refine x_iadd C dL_law_444 ?_
  refine q_sld C hX hb hbA ⟨by omega, by omega⟩ hL dL_law_445 ?_
  refine x_aload_n C 3 dL_law_446 rfl ?_
  refine q_wr (mc' := 1) (ms' := 6) (rm := rmv 7 110 1 6) (As := [.ref (d.ad 1), iV (sc xs (i + 1)), .ref (d.ad 34)]) (rest := []) C hA hR hNC mfL_property lk_L_149 ⟨rfl, rfl⟩ ⟨Nat.le_of_ble_eq_true rfl, Nat.le_of_ble_eq_true rfl⟩ rfl rfl (Nat.le_of_ble_eq_true rfl) (lq hce (by decide) (by decide)) dL_law_447 hq (fun _ h => c_L_property g.l g.G hfl h) (fun z1 d2 _ hq agd2 hn hc1 hc2 => ?_)
  have e1 := agq1 agd2; have e3 := agq3 agd2; rw [e1, e3]; rw [← hn] at hq
  refine x_istore C dL_law_450 (by decide) rfl ?_
  refine x_aload_n C 3 dL_law_452 rfl ?_
  refine x_aload_n C 1 dL_law_453 rfl ?_
  refine x_iload C 5 dL_law_454 rfl ?_
  refine x_iconst C dL_law_456 ?_
  refine x_iadd C dL_law_457 ?_
  refine q_sld C hX hb hbA ⟨by omega, by omega⟩ hL dL_law_458 ?_
  refine q_mI (rm := rmv 9 213 0 0) (K := 10) (o := 50) (As := [iV (sc xs (i + 1))]) (rest := []) C hA hR mf_X9_property lk_L_152 rfl ⟨rfl, rfl⟩ (by decide) ⟨rfl, rfl⟩ ⟨Nat.le_of_ble_eq_true rfl, Nat.le_of_ble_eq_true rfl⟩ rfl rfl (Nat.le_of_ble_eq_true rfl) (lq1 hce hc1 hc2 (by decide) (by decide)) dL_law_459 hq (fun _ _ h => c_X9_property g.l g.G rfl h) (fun rm3 wm3 _ hq => ?_)
  refine x_istore C dL_law_462 (by decide) rfl ?_
  refine x_aload_n C 4 dL_law_464 rfl ?_
  refine q_mI (rm := rmv 0 0 0 0) (K := 10) (o := 50) (As := []) (rest := []) C hA hR mf_X9_thrown lk_L_130 rfl ⟨rfl, rfl⟩ (by decide) ⟨rfl, rfl⟩ ⟨Nat.le_of_ble_eq_true rfl, Nat.le_of_ble_eq_true rfl⟩ rfl rfl (Nat.le_of_ble_eq_true rfl) (lq1 hce hc1 hc2 (by decide) (by decide)) dL_law_465 hq (fun _ _ h => c_X9_thrown g.l g.G rfl h) (fun rm4 wm4 _ hq => ?_)
  refine x_iload C 1 dL_law_468 rfl ?_
  refine x_icmp_eq (tgt := 475) C dL_law_470 (by decide) hq (fun hq => ?_) (fun hq => ?_)
  · refine x_iload C 1 dL_law_475 rfl ?_
    refine x_if_ne (tgt := 492) C dL_law_477 (by decide) hq (fun hq => ?_) (fun hq => ?_)
    · refine x_goto (tgt := 2560) C dL_law_492 (by decide) ?_
      refine XG.sub [2, 3, 4, 5, 6] rfl ?_
      exact K d2 _ _ (agd2) (lc hc1 (by decide)) (lc hc2 (by decide)) hq
    · refine x_aload_n C 5 dL_law_480 rfl ?_
      refine x_iconst C dL_law_481 ?_
      refine q_lald C (by decide) dL_law_482 ?_
      refine x_iload C 0 dL_law_483 rfl ?_
      refine x_i2l C dL_law_485 ?_
      refine x_lcmp C dL_law_486 ?_
      refine x_if_eq (tgt := 492) C dL_law_487 (by decide) hq (fun hq => ?_) (fun hq => ?_)
      · refine x_goto (tgt := 2560) C dL_law_492 (by decide) ?_
        refine XG.sub [2, 3, 4, 5, 6] rfl ?_
        exact K d2 _ _ (agd2) (lc hc1 (by decide)) (lc hc2 (by decide)) hq
      · exact nomatch hq
  · exact nomatch hq
theorem L_op_6 {g : Cx} {ret9 : Option FieldType} (C : CX g cL_law 9 ret9 RL) (hfl : g.l.stackTraces = false) (hA : ∀ q : Nat, g.s.heap.size ≤ q → g.A q) (hR : g.R = room_1) (hNC : NC3 g.s) {b L : Nat} {xs : Nat → Int32} (hX : va_X b L xs g.s g.s.heap) (hb : b < g.s.heap.size) (hbA : ¬ g.A b) (hL : L ≤ 3072) {i : Int} (hi : 0 ≤ i ∧ i + 5 < L) {d : Dl} {adM : Nat → Nat} {wC wM : Wd} (hce : d.ce + 15 ≤ MCL ∧ d.so + 852 ≤ MSL) {res : Nat × Wd × Wd} (hq : p_op_6 xs i d.na wC wM = some res)
    (K : ∀ (d1 : Dl) (w1 w2 : Wd), AG d.na d.ad d1 → d1.ce ≤ d.ce + 15 → d1.so ≤ d.so + 852 → some (d1.na, w1, w2) = some res → XG g d1 (hQ g d1 adM w1 w2) [(0, .ref b), (1, .ref (d1.ad 1)), (2, .ref (adM 50)), (3, .ref (d1.ad 34)), (4, iV i)] [] 2560) :
    XG g d (hQ g d adM wC wM) [(0, .ref b), (1, .ref (d.ad 1)), (2, .ref (adM 50)), (3, .ref (d.ad 34)), (4, iV i)] [] 495 := by
  unfold p_op_6 at hq
  refine x_aload_n C 1 dL_law_495 rfl ?_
  refine x_aload_n C 0 dL_law_496 rfl ?_
  refine x_iload C 4 dL_law_497 rfl ?_
  refine x_iconst C dL_law_499 ?_
  refine x_iadd C dL_law_500 ?_
  refine q_sld C hX hb hbA ⟨by omega, by omega⟩ hL dL_law_501 ?_
  refine x_aload_n C 0 dL_law_502 rfl ?_
  refine x_iload C 4 dL_law_503 rfl ?_
  refine x_iconst C dL_law_505 ?_
  refine x_iadd C dL_law_506 ?_
  refine q_sld C hX hb hbA ⟨by omega, by omega⟩ hL dL_law_507 ?_
  refine x_aload_n C 3 dL_law_508 rfl ?_
  refine q_wr (mc' := 2) (ms' := 12) (rm := rmv 8 135 2 12) (As := [.ref (d.ad 1), iV (sc xs (i + 1)), iV (sc xs (i + 2)), .ref (d.ad 34)]) (rest := []) C hA hR hNC mfL_part lk_L_153 ⟨rfl, rfl⟩ ⟨Nat.le_of_ble_eq_true rfl, Nat.le_of_ble_eq_true rfl⟩ rfl rfl (Nat.le_of_ble_eq_true rfl) (lq hce (by decide) (by decide)) dL_law_509 hq (fun _ h => c_L_part g.l g.G hfl h) (fun z1 d2 _ hq agd2 hn hc1 hc2 => ?_)
  have e1 := agq1 agd2; have e3 := agq3 agd2; rw [e1, e3]; rw [← hn] at hq
  refine x_istore C dL_law_512 (by decide) rfl ?_
  refine x_aload_n C 3 dL_law_514 rfl ?_
  refine x_aload_n C 1 dL_law_515 rfl ?_
  refine x_iload C 5 dL_law_516 rfl ?_
  refine x_iconst C dL_law_518 ?_
  refine x_iadd C dL_law_519 ?_
  refine q_sld C hX hb hbA ⟨by omega, by omega⟩ hL dL_law_520 ?_
  refine x_aload_n C 1 dL_law_521 rfl ?_
  refine x_iload C 5 dL_law_522 rfl ?_
  refine x_iconst C dL_law_524 ?_
  refine x_iadd C dL_law_525 ?_
  refine q_sld C hX hb hbA ⟨by omega, by omega⟩ hL dL_law_526 ?_
  refine q_mI (rm := rmv 9 213 0 0) (K := 10) (o := 50) (As := [iV (sc xs (i + 1)), iV (sc xs (i + 2))]) (rest := []) C hA hR mf_X9_part lk_L_156 rfl ⟨rfl, rfl⟩ (by decide) ⟨rfl, rfl⟩ ⟨Nat.le_of_ble_eq_true rfl, Nat.le_of_ble_eq_true rfl⟩ rfl rfl (Nat.le_of_ble_eq_true rfl) (lq1 hce hc1 hc2 (by decide) (by decide)) dL_law_527 hq (fun _ _ h => c_X9_part g.l g.G rfl h) (fun rm3 wm3 _ hq => ?_)
  refine x_istore C dL_law_530 (by decide) rfl ?_
  refine x_aload_n C 4 dL_law_532 rfl ?_
  refine q_mI (rm := rmv 0 0 0 0) (K := 10) (o := 50) (As := []) (rest := []) C hA hR mf_X9_thrown lk_L_130 rfl ⟨rfl, rfl⟩ (by decide) ⟨rfl, rfl⟩ ⟨Nat.le_of_ble_eq_true rfl, Nat.le_of_ble_eq_true rfl⟩ rfl rfl (Nat.le_of_ble_eq_true rfl) (lq1 hce hc1 hc2 (by decide) (by decide)) dL_law_533 hq (fun _ _ h => c_X9_thrown g.l g.G rfl h) (fun rm4 wm4 _ hq => ?_)
  refine x_iload C 1 dL_law_536 rfl ?_
  refine x_icmp_eq (tgt := 543) C dL_law_538 (by decide) hq (fun hq => ?_) (fun hq => ?_)
  · refine x_iload C 1 dL_law_543 rfl ?_
    refine x_if_ne (tgt := 560) C dL_law_545 (by decide) hq (fun hq => ?_) (fun hq => ?_)
    · refine x_goto (tgt := 2560) C dL_law_560 (by decide) ?_
      refine XG.sub [2, 3, 4, 5, 6] rfl ?_
      exact K d2 _ _ (agd2) (lc hc1 (by decide)) (lc hc2 (by decide)) hq
    · refine x_aload_n C 5 dL_law_548 rfl ?_
      refine x_iconst C dL_law_549 ?_
      refine q_lald C (by decide) dL_law_550 ?_
      refine x_iload C 0 dL_law_551 rfl ?_
      refine x_i2l C dL_law_553 ?_
      refine x_lcmp C dL_law_554 ?_
      refine x_if_eq (tgt := 560) C dL_law_555 (by decide) hq (fun hq => ?_) (fun hq => ?_)
      · refine x_goto (tgt := 2560) C dL_law_560 (by decide) ?_
        refine XG.sub [2, 3, 4, 5, 6] rfl ?_
        exact K d2 _ _ (agd2) (lc hc1 (by decide)) (lc hc2 (by decide)) hq
      · exact nomatch hq
  · exact nomatch hq
theorem L_op_7 {g : Cx} {ret9 : Option FieldType} (C : CX g cL_law 9 ret9 RL) (hfl : g.l.stackTraces = false) (hA : ∀ q : Nat, g.s.heap.size ≤ q → g.A q) (hR : g.R = room_1) (hNC : NC3 g.s) {b L : Nat} {xs : Nat → Int32} (hX : va_X b L xs g.s g.s.heap) (hb : b < g.s.heap.size) (hbA : ¬ g.A b) (hL : L ≤ 3072) {i : Int} (hi : 0 ≤ i ∧ i + 5 < L) {d : Dl} {adM : Nat → Nat} {wC wM : Wd} (hce : d.ce + 15 ≤ MCL ∧ d.so + 852 ≤ MSL) {res : Nat × Wd × Wd} (hq : p_op_7 xs i d.na wC wM = some res)
    (K : ∀ (d1 : Dl) (w1 w2 : Wd), AG d.na d.ad d1 → d1.ce ≤ d.ce + 15 → d1.so ≤ d.so + 852 → some (d1.na, w1, w2) = some res → XG g d1 (hQ g d1 adM w1 w2) [(0, .ref b), (1, .ref (d1.ad 1)), (2, .ref (adM 50)), (3, .ref (d1.ad 34)), (4, iV i)] [] 2560) :
    XG g d (hQ g d adM wC wM) [(0, .ref b), (1, .ref (d.ad 1)), (2, .ref (adM 50)), (3, .ref (d.ad 34)), (4, iV i)] [] 563 := by
  unfold p_op_7 at hq
  refine x_aload_n C 1 dL_law_563 rfl ?_
  refine x_aload_n C 0 dL_law_564 rfl ?_
  refine x_iload C 4 dL_law_565 rfl ?_
  refine x_iconst C dL_law_567 ?_
  refine x_iadd C dL_law_568 ?_
  refine q_sld C hX hb hbA ⟨by omega, by omega⟩ hL dL_law_569 ?_
  refine x_aload_n C 0 dL_law_570 rfl ?_
  refine x_iload C 4 dL_law_571 rfl ?_
  refine x_iconst C dL_law_573 ?_
  refine x_iadd C dL_law_574 ?_
  refine q_sld C hX hb hbA ⟨by omega, by omega⟩ hL dL_law_575 ?_
  refine x_aload_n C 3 dL_law_576 rfl ?_
  refine q_wr (mc' := 2) (ms' := 12) (rm := rmv 8 132 2 12) (As := [.ref (d.ad 1), iV (sc xs (i + 1)), iV (sc xs (i + 2)), .ref (d.ad 34)]) (rest := []) C hA hR hNC mfL_word lk_L_157 ⟨rfl, rfl⟩ ⟨Nat.le_of_ble_eq_true rfl, Nat.le_of_ble_eq_true rfl⟩ rfl rfl (Nat.le_of_ble_eq_true rfl) (lq hce (by decide) (by decide)) dL_law_577 hq (fun _ h => c_L_word g.l g.G hfl h) (fun z1 d2 _ hq agd2 hn hc1 hc2 => ?_)
  have e1 := agq1 agd2; have e3 := agq3 agd2; rw [e1, e3]; rw [← hn] at hq
  refine x_istore C dL_law_580 (by decide) rfl ?_
  refine x_aload_n C 3 dL_law_582 rfl ?_
  refine x_aload_n C 1 dL_law_583 rfl ?_
  refine x_iload C 5 dL_law_584 rfl ?_
  refine x_iconst C dL_law_586 ?_
  refine x_iadd C dL_law_587 ?_
  refine q_sld C hX hb hbA ⟨by omega, by omega⟩ hL dL_law_588 ?_
  refine x_aload_n C 1 dL_law_589 rfl ?_
  refine x_iload C 5 dL_law_590 rfl ?_
  refine x_iconst C dL_law_592 ?_
  refine x_iadd C dL_law_593 ?_
  refine q_sld C hX hb hbA ⟨by omega, by omega⟩ hL dL_law_594 ?_
  refine q_mI (rm := rmv 9 213 0 0) (K := 10) (o := 50) (As := [iV (sc xs (i + 1)), iV (sc xs (i + 2))]) (rest := []) C hA hR mf_X9_word lk_L_159 rfl ⟨rfl, rfl⟩ (by decide) ⟨rfl, rfl⟩ ⟨Nat.le_of_ble_eq_true rfl, Nat.le_of_ble_eq_true rfl⟩ rfl rfl (Nat.le_of_ble_eq_true rfl) (lq1 hce hc1 hc2 (by decide) (by decide)) dL_law_595 hq (fun _ _ h => c_X9_word g.l g.G rfl h) (fun rm3 wm3 _ hq => ?_)
  refine x_istore C dL_law_598 (by decide) rfl ?_
  refine x_aload_n C 4 dL_law_600 rfl ?_
  refine q_mI (rm := rmv 0 0 0 0) (K := 10) (o := 50) (As := []) (rest := []) C hA hR mf_X9_thrown lk_L_130 rfl ⟨rfl, rfl⟩ (by decide) ⟨rfl, rfl⟩ ⟨Nat.le_of_ble_eq_true rfl, Nat.le_of_ble_eq_true rfl⟩ rfl rfl (Nat.le_of_ble_eq_true rfl) (lq1 hce hc1 hc2 (by decide) (by decide)) dL_law_601 hq (fun _ _ h => c_X9_thrown g.l g.G rfl h) (fun rm4 wm4 _ hq => ?_)
  refine x_iload C 1 dL_law_604 rfl ?_
  refine x_icmp_eq (tgt := 611) C dL_law_606 (by decide) hq (fun hq => ?_) (fun hq => ?_)
  · refine x_iload C 1 dL_law_611 rfl ?_
    refine x_if_ne (tgt := 628) C dL_law_613 (by decide) hq (fun hq => ?_) (fun hq => ?_)
    · refine x_goto (tgt := 2560) C dL_law_628 (by decide) ?_
      refine XG.sub [2, 3, 4, 5, 6] rfl ?_
      exact K d2 _ _ (agd2) (lc hc1 (by decide)) (lc hc2 (by decide)) hq
    · refine x_aload_n C 5 dL_law_616 rfl ?_
      refine x_iconst C dL_law_617 ?_
      refine q_lald C (by decide) dL_law_618 ?_
      refine x_iload C 0 dL_law_619 rfl ?_
      refine x_i2l C dL_law_621 ?_
      refine x_lcmp C dL_law_622 ?_
      refine x_if_eq (tgt := 628) C dL_law_623 (by decide) hq (fun hq => ?_) (fun hq => ?_)
      · refine x_goto (tgt := 2560) C dL_law_628 (by decide) ?_
        refine XG.sub [2, 3, 4, 5, 6] rfl ?_
        exact K d2 _ _ (agd2) (lc hc1 (by decide)) (lc hc2 (by decide)) hq
      · exact nomatch hq
  · exact nomatch hq
theorem L_op_8 {g : Cx} {ret9 : Option FieldType} (C : CX g cL_law 9 ret9 RL) (hfl : g.l.stackTraces = false) (hA : ∀ q : Nat, g.s.heap.size ≤ q → g.A q) (hR : g.R = room_1) (hNC : NC3 g.s) {b L : Nat} {xs : Nat → Int32} (hX : va_X b L xs g.s g.s.heap) (hb : b < g.s.heap.size) (hbA : ¬ g.A b) (hL : L ≤ 3072) {i : Int} (hi : 0 ≤ i ∧ i + 5 < L) {d : Dl} {adM : Nat → Nat} {wC wM : Wd} (hce : d.ce + 15 ≤ MCL ∧ d.so + 852 ≤ MSL) {res : Nat × Wd × Wd} (hq : p_op_8 xs i d.na wC wM = some res)
    (K : ∀ (d1 : Dl) (w1 w2 : Wd), AG d.na d.ad d1 → d1.ce ≤ d.ce + 15 → d1.so ≤ d.so + 852 → some (d1.na, w1, w2) = some res → XG g d1 (hQ g d1 adM w1 w2) [(0, .ref b), (1, .ref (d1.ad 1)), (2, .ref (adM 50)), (3, .ref (d1.ad 34)), (4, iV i)] [] 2560) :
    XG g d (hQ g d adM wC wM) [(0, .ref b), (1, .ref (d.ad 1)), (2, .ref (adM 50)), (3, .ref (d.ad 34)), (4, iV i)] [] 631 := by
  unfold p_op_8 at hq
  refine x_aload_n C 1 dL_law_631 rfl ?_
  refine x_aload_n C 0 dL_law_632 rfl ?_
  refine x_iload C 4 dL_law_633 rfl ?_
  refine x_iconst C dL_law_635 ?_
  refine x_iadd C dL_law_636 ?_
  refine q_sld C hX hb hbA ⟨by omega, by omega⟩ hL dL_law_637 ?_
  refine x_aload_n C 0 dL_law_638 rfl ?_
  refine x_iload C 4 dL_law_639 rfl ?_
  refine x_iconst C dL_law_641 ?_
  refine x_iadd C dL_law_642 ?_
  refine q_sld C hX hb hbA ⟨by omega, by omega⟩ hL dL_law_643 ?_
  refine x_aload_n C 3 dL_law_644 rfl ?_
  refine q_wr (mc' := 2) (ms' := 12) (rm := rmv 8 132 2 12) (As := [.ref (d.ad 1), iV (sc xs (i + 1)), iV (sc xs (i + 2)), .ref (d.ad 34)]) (rest := []) C hA hR hNC mfL_letter lk_L_160 ⟨rfl, rfl⟩ ⟨Nat.le_of_ble_eq_true rfl, Nat.le_of_ble_eq_true rfl⟩ rfl rfl (Nat.le_of_ble_eq_true rfl) (lq hce (by decide) (by decide)) dL_law_645 hq (fun _ h => c_L_letter g.l g.G hfl h) (fun z1 d2 _ hq agd2 hn hc1 hc2 => ?_)
  have e1 := agq1 agd2; have e3 := agq3 agd2; rw [e1, e3]; rw [← hn] at hq
  refine x_istore C dL_law_648 (by decide) rfl ?_
  refine x_aload_n C 3 dL_law_650 rfl ?_
  refine x_aload_n C 1 dL_law_651 rfl ?_
  refine x_iload C 5 dL_law_652 rfl ?_
  refine x_iconst C dL_law_654 ?_
  refine x_iadd C dL_law_655 ?_
  refine q_sld C hX hb hbA ⟨by omega, by omega⟩ hL dL_law_656 ?_
  refine x_aload_n C 1 dL_law_657 rfl ?_
  refine x_iload C 5 dL_law_658 rfl ?_
  refine x_iconst C dL_law_660 ?_
  refine x_iadd C dL_law_661 ?_
  refine q_sld C hX hb hbA ⟨by omega, by omega⟩ hL dL_law_662 ?_
  refine q_mI (rm := rmv 2 46 0 0) (K := 10) (o := 50) (As := [iV (sc xs (i + 1)), iV (sc xs (i + 2))]) (rest := []) C hA hR mf_X9_letter lk_L_162 rfl ⟨rfl, rfl⟩ (by decide) ⟨rfl, rfl⟩ ⟨Nat.le_of_ble_eq_true rfl, Nat.le_of_ble_eq_true rfl⟩ rfl rfl (Nat.le_of_ble_eq_true rfl) (lq1 hce hc1 hc2 (by decide) (by decide)) dL_law_663 hq (fun _ _ h => c_X9_letter g.l g.G rfl h) (fun rm3 wm3 _ hq => ?_)
  refine x_istore C dL_law_666 (by decide) rfl ?_
  refine x_aload_n C 4 dL_law_668 rfl ?_
  refine q_mI (rm := rmv 0 0 0 0) (K := 10) (o := 50) (As := []) (rest := []) C hA hR mf_X9_thrown lk_L_130 rfl ⟨rfl, rfl⟩ (by decide) ⟨rfl, rfl⟩ ⟨Nat.le_of_ble_eq_true rfl, Nat.le_of_ble_eq_true rfl⟩ rfl rfl (Nat.le_of_ble_eq_true rfl) (lq1 hce hc1 hc2 (by decide) (by decide)) dL_law_669 hq (fun _ _ h => c_X9_thrown g.l g.G rfl h) (fun rm4 wm4 _ hq => ?_)
  refine x_iload C 1 dL_law_672 rfl ?_
  refine x_icmp_eq (tgt := 679) C dL_law_674 (by decide) hq (fun hq => ?_) (fun hq => ?_)
  · refine x_iload C 1 dL_law_679 rfl ?_
    refine x_if_ne (tgt := 696) C dL_law_681 (by decide) hq (fun hq => ?_) (fun hq => ?_)
    · refine x_goto (tgt := 2560) C dL_law_696 (by decide) ?_
      refine XG.sub [2, 3, 4, 5, 6] rfl ?_
      exact K d2 _ _ (agd2) (lc hc1 (by decide)) (lc hc2 (by decide)) hq
    · refine x_aload_n C 5 dL_law_684 rfl ?_
      refine x_iconst C dL_law_685 ?_
      refine q_lald C (by decide) dL_law_686 ?_
      refine x_iload C 0 dL_law_687 rfl ?_
      refine x_i2l C dL_law_689 ?_
      refine x_lcmp C dL_law_690 ?_
      refine x_if_eq (tgt := 696) C dL_law_691 (by decide) hq (fun hq => ?_) (fun hq => ?_)
      · refine x_goto (tgt := 2560) C dL_law_696 (by decide) ?_
        refine XG.sub [2, 3, 4, 5, 6] rfl ?_
        exact K d2 _ _ (agd2) (lc hc1 (by decide)) (lc hc2 (by decide)) hq
      · exact nomatch hq
  · exact nomatch hq
theorem L_op_9 {g : Cx} {ret9 : Option FieldType} (C : CX g cL_law 9 ret9 RL) (hfl : g.l.stackTraces = false) (hA : ∀ q : Nat, g.s.heap.size ≤ q → g.A q) (hR : g.R = room_1) (hNC : NC3 g.s) {b L : Nat} {xs : Nat → Int32} (hX : va_X b L xs g.s g.s.heap) (hb : b < g.s.heap.size) (hbA : ¬ g.A b) (hL : L ≤ 3072) {i : Int} (hi : 0 ≤ i ∧ i + 5 < L) {d : Dl} {adM : Nat → Nat} {wC wM : Wd} (hce : d.ce + 15 ≤ MCL ∧ d.so + 852 ≤ MSL) {res : Nat × Wd × Wd} (hq : p_op_9 xs i d.na wC wM = some res)
    (K : ∀ (d1 : Dl) (w1 w2 : Wd), AG d.na d.ad d1 → d1.ce ≤ d.ce + 15 → d1.so ≤ d.so + 852 → some (d1.na, w1, w2) = some res → XG g d1 (hQ g d1 adM w1 w2) [(0, .ref b), (1, .ref (d1.ad 1)), (2, .ref (adM 50)), (3, .ref (d1.ad 34)), (4, iV i)] [] 2560) :
    XG g d (hQ g d adM wC wM) [(0, .ref b), (1, .ref (d.ad 1)), (2, .ref (adM 50)), (3, .ref (d.ad 34)), (4, iV i)] [] 699 := by
  unfold p_op_9 at hq
  refine x_aload_n C 1 dL_law_699 rfl ?_
  refine x_aload_n C 0 dL_law_700 rfl ?_
  refine x_iload C 4 dL_law_701 rfl ?_
  refine x_iconst C dL_law_703 ?_
  refine x_iadd C dL_law_704 ?_
  refine q_sld C hX hb hbA ⟨by omega, by omega⟩ hL dL_law_705 ?_
  refine x_aload_n C 0 dL_law_706 rfl ?_
  refine x_iload C 4 dL_law_707 rfl ?_
  refine x_iconst C dL_law_709 ?_
  refine x_iadd C dL_law_710 ?_
  refine q_sld C hX hb hbA ⟨by omega, by omega⟩ hL dL_law_711 ?_
  refine x_aload_n C 3 dL_law_712 rfl ?_
  refine q_wr (mc' := 2) (ms' := 12) (rm := rmv 9 155 2 12) (As := [.ref (d.ad 1), iV (sc xs (i + 1)), iV (sc xs (i + 2)), .ref (d.ad 34)]) (rest := []) C hA hR hNC mfL_cell lk_L_163 ⟨rfl, rfl⟩ ⟨Nat.le_of_ble_eq_true rfl, Nat.le_of_ble_eq_true rfl⟩ rfl rfl (Nat.le_of_ble_eq_true rfl) (lq hce (by decide) (by decide)) dL_law_713 hq (fun _ h => c_L_cell g.l g.G hfl h) (fun z1 d2 _ hq agd2 hn hc1 hc2 => ?_)
  have e1 := agq1 agd2; have e3 := agq3 agd2; rw [e1, e3]; rw [← hn] at hq
  refine x_istore C dL_law_716 (by decide) rfl ?_
  refine x_aload_n C 3 dL_law_718 rfl ?_
  refine x_aload_n C 1 dL_law_719 rfl ?_
  refine x_iload C 5 dL_law_720 rfl ?_
  refine x_iconst C dL_law_722 ?_
  refine x_iadd C dL_law_723 ?_
  refine q_sld C hX hb hbA ⟨by omega, by omega⟩ hL dL_law_724 ?_
  refine x_aload_n C 1 dL_law_725 rfl ?_
  refine x_iload C 5 dL_law_726 rfl ?_
  refine x_iconst C dL_law_728 ?_
  refine x_iadd C dL_law_729 ?_
  refine q_sld C hX hb hbA ⟨by omega, by omega⟩ hL dL_law_730 ?_
  refine q_mI (rm := rmv 9 213 0 0) (K := 10) (o := 50) (As := [iV (sc xs (i + 1)), iV (sc xs (i + 2))]) (rest := []) C hA hR mf_X9_cell lk_L_165 rfl ⟨rfl, rfl⟩ (by decide) ⟨rfl, rfl⟩ ⟨Nat.le_of_ble_eq_true rfl, Nat.le_of_ble_eq_true rfl⟩ rfl rfl (Nat.le_of_ble_eq_true rfl) (lq1 hce hc1 hc2 (by decide) (by decide)) dL_law_731 hq (fun _ _ h => c_X9_cell g.l g.G rfl h) (fun rm3 wm3 _ hq => ?_)
  refine x_istore C dL_law_734 (by decide) rfl ?_
  refine x_aload_n C 4 dL_law_736 rfl ?_
  refine q_mI (rm := rmv 0 0 0 0) (K := 10) (o := 50) (As := []) (rest := []) C hA hR mf_X9_thrown lk_L_130 rfl ⟨rfl, rfl⟩ (by decide) ⟨rfl, rfl⟩ ⟨Nat.le_of_ble_eq_true rfl, Nat.le_of_ble_eq_true rfl⟩ rfl rfl (Nat.le_of_ble_eq_true rfl) (lq1 hce hc1 hc2 (by decide) (by decide)) dL_law_737 hq (fun _ _ h => c_X9_thrown g.l g.G rfl h) (fun rm4 wm4 _ hq => ?_)
  refine x_iload C 1 dL_law_740 rfl ?_
  refine x_icmp_eq (tgt := 747) C dL_law_742 (by decide) hq (fun hq => ?_) (fun hq => ?_)
  · refine x_iload C 1 dL_law_747 rfl ?_
    refine x_if_ne (tgt := 764) C dL_law_749 (by decide) hq (fun hq => ?_) (fun hq => ?_)
    · refine x_goto (tgt := 2560) C dL_law_764 (by decide) ?_
      refine XG.sub [2, 3, 4, 5, 6] rfl ?_
      exact K d2 _ _ (agd2) (lc hc1 (by decide)) (lc hc2 (by decide)) hq
    · refine x_aload_n C 5 dL_law_752 rfl ?_
      refine x_iconst C dL_law_753 ?_
      refine q_lald C (by decide) dL_law_754 ?_
      refine x_iload C 0 dL_law_755 rfl ?_
      refine x_i2l C dL_law_757 ?_
      refine x_lcmp C dL_law_758 ?_
      refine x_if_eq (tgt := 764) C dL_law_759 (by decide) hq (fun hq => ?_) (fun hq => ?_)
      · refine x_goto (tgt := 2560) C dL_law_764 (by decide) ?_
        refine XG.sub [2, 3, 4, 5, 6] rfl ?_
        exact K d2 _ _ (agd2) (lc hc1 (by decide)) (lc hc2 (by decide)) hq
      · exact nomatch hq
  · exact nomatch hq
theorem L_op_10 {g : Cx} {ret9 : Option FieldType} (C : CX g cL_law 9 ret9 RL) (hfl : g.l.stackTraces = false) (hA : ∀ q : Nat, g.s.heap.size ≤ q → g.A q) (hR : g.R = room_1) (hNC : NC3 g.s) {b L : Nat} {xs : Nat → Int32} (hX : va_X b L xs g.s g.s.heap) (hb : b < g.s.heap.size) (hbA : ¬ g.A b) (hL : L ≤ 3072) {i : Int} (hi : 0 ≤ i ∧ i + 5 < L) {d : Dl} {adM : Nat → Nat} {wC wM : Wd} (hce : d.ce + 15 ≤ MCL ∧ d.so + 852 ≤ MSL) {res : Nat × Wd × Wd} (hq : p_op_10 xs i d.na wC wM = some res)
    (K : ∀ (d1 : Dl) (w1 w2 : Wd), AG d.na d.ad d1 → d1.ce ≤ d.ce + 15 → d1.so ≤ d.so + 852 → some (d1.na, w1, w2) = some res → XG g d1 (hQ g d1 adM w1 w2) [(0, .ref b), (1, .ref (d1.ad 1)), (2, .ref (adM 50)), (3, .ref (d1.ad 34)), (4, iV i)] [] 2560) :
    XG g d (hQ g d adM wC wM) [(0, .ref b), (1, .ref (d.ad 1)), (2, .ref (adM 50)), (3, .ref (d.ad 34)), (4, iV i)] [] 767 := by
  unfold p_op_10 at hq
  refine x_aload_n C 1 dL_law_767 rfl ?_
  refine x_aload_n C 0 dL_law_768 rfl ?_
  refine x_iload C 4 dL_law_769 rfl ?_
  refine x_iconst C dL_law_771 ?_
  refine x_iadd C dL_law_772 ?_
  refine q_sld C hX hb hbA ⟨by omega, by omega⟩ hL dL_law_773 ?_
  refine x_aload_n C 0 dL_law_774 rfl ?_
  refine x_iload C 4 dL_law_775 rfl ?_
  refine x_iconst C dL_law_777 ?_
  refine x_iadd C dL_law_778 ?_
  refine q_sld C hX hb hbA ⟨by omega, by omega⟩ hL dL_law_779 ?_
  refine x_aload_n C 3 dL_law_780 rfl ?_
  refine q_wr (mc' := 2) (ms' := 12) (rm := rmv 9 154 2 12) (As := [.ref (d.ad 1), iV (sc xs (i + 1)), iV (sc xs (i + 2)), .ref (d.ad 34)]) (rest := []) C hA hR hNC mfL_wordAt lk_L_166 ⟨rfl, rfl⟩ ⟨Nat.le_of_ble_eq_true rfl, Nat.le_of_ble_eq_true rfl⟩ rfl rfl (Nat.le_of_ble_eq_true rfl) (lq hce (by decide) (by decide)) dL_law_781 hq (fun _ h => c_L_wordAt g.l g.G hfl h) (fun z1 d2 _ hq agd2 hn hc1 hc2 => ?_)
  have e1 := agq1 agd2; have e3 := agq3 agd2; rw [e1, e3]; rw [← hn] at hq
  refine x_istore C dL_law_784 (by decide) rfl ?_
  refine x_aload_n C 3 dL_law_786 rfl ?_
  refine x_aload_n C 1 dL_law_787 rfl ?_
  refine x_iload C 5 dL_law_788 rfl ?_
  refine x_iconst C dL_law_790 ?_
  refine x_iadd C dL_law_791 ?_
  refine q_sld C hX hb hbA ⟨by omega, by omega⟩ hL dL_law_792 ?_
  refine x_aload_n C 1 dL_law_793 rfl ?_
  refine x_iload C 5 dL_law_794 rfl ?_
  refine x_iconst C dL_law_796 ?_
  refine x_iadd C dL_law_797 ?_
  refine q_sld C hX hb hbA ⟨by omega, by omega⟩ hL dL_law_798 ?_
  refine q_mI (rm := rmv 9 213 0 0) (K := 10) (o := 50) (As := [iV (sc xs (i + 1)), iV (sc xs (i + 2))]) (rest := []) C hA hR mf_X9_wordAt lk_L_168 rfl ⟨rfl, rfl⟩ (by decide) ⟨rfl, rfl⟩ ⟨Nat.le_of_ble_eq_true rfl, Nat.le_of_ble_eq_true rfl⟩ rfl rfl (Nat.le_of_ble_eq_true rfl) (lq1 hce hc1 hc2 (by decide) (by decide)) dL_law_799 hq (fun _ _ h => c_X9_wordAt g.l g.G rfl h) (fun rm3 wm3 _ hq => ?_)
  refine x_istore C dL_law_802 (by decide) rfl ?_
  refine x_aload_n C 4 dL_law_804 rfl ?_
  refine q_mI (rm := rmv 0 0 0 0) (K := 10) (o := 50) (As := []) (rest := []) C hA hR mf_X9_thrown lk_L_130 rfl ⟨rfl, rfl⟩ (by decide) ⟨rfl, rfl⟩ ⟨Nat.le_of_ble_eq_true rfl, Nat.le_of_ble_eq_true rfl⟩ rfl rfl (Nat.le_of_ble_eq_true rfl) (lq1 hce hc1 hc2 (by decide) (by decide)) dL_law_805 hq (fun _ _ h => c_X9_thrown g.l g.G rfl h) (fun rm4 wm4 _ hq => ?_)
  refine x_iload C 1 dL_law_808 rfl ?_
  refine x_icmp_eq (tgt := 815) C dL_law_810 (by decide) hq (fun hq => ?_) (fun hq => ?_)
  · refine x_iload C 1 dL_law_815 rfl ?_
    refine x_if_ne (tgt := 832) C dL_law_817 (by decide) hq (fun hq => ?_) (fun hq => ?_)
    · refine x_goto (tgt := 2560) C dL_law_832 (by decide) ?_
      refine XG.sub [2, 3, 4, 5, 6] rfl ?_
      exact K d2 _ _ (agd2) (lc hc1 (by decide)) (lc hc2 (by decide)) hq
    · refine x_aload_n C 5 dL_law_820 rfl ?_
      refine x_iconst C dL_law_821 ?_
      refine q_lald C (by decide) dL_law_822 ?_
      refine x_iload C 0 dL_law_823 rfl ?_
      refine x_i2l C dL_law_825 ?_
      refine x_lcmp C dL_law_826 ?_
      refine x_if_eq (tgt := 832) C dL_law_827 (by decide) hq (fun hq => ?_) (fun hq => ?_)
      · refine x_goto (tgt := 2560) C dL_law_832 (by decide) ?_
        refine XG.sub [2, 3, 4, 5, 6] rfl ?_
        exact K d2 _ _ (agd2) (lc hc1 (by decide)) (lc hc2 (by decide)) hq
      · exact nomatch hq
  · exact nomatch hq
theorem L_op_11 {g : Cx} {ret9 : Option FieldType} (C : CX g cL_law 9 ret9 RL) (hfl : g.l.stackTraces = false) (hA : ∀ q : Nat, g.s.heap.size ≤ q → g.A q) (hR : g.R = room_1) (hNC : NC3 g.s) {b L : Nat} {xs : Nat → Int32} (hX : va_X b L xs g.s g.s.heap) (hb : b < g.s.heap.size) (hbA : ¬ g.A b) (hL : L ≤ 3072) {i : Int} (hi : 0 ≤ i ∧ i + 5 < L) {d : Dl} {adM : Nat → Nat} {wC wM : Wd} (hce : d.ce + 15 ≤ MCL ∧ d.so + 852 ≤ MSL) {res : Nat × Wd × Wd} (hq : p_op_11 xs i d.na wC wM = some res)
    (K : ∀ (d1 : Dl) (w1 w2 : Wd), AG d.na d.ad d1 → d1.ce ≤ d.ce + 15 → d1.so ≤ d.so + 852 → some (d1.na, w1, w2) = some res → XG g d1 (hQ g d1 adM w1 w2) [(0, .ref b), (1, .ref (d1.ad 1)), (2, .ref (adM 50)), (3, .ref (d1.ad 34)), (4, iV i)] [] 2560) :
    XG g d (hQ g d adM wC wM) [(0, .ref b), (1, .ref (d.ad 1)), (2, .ref (adM 50)), (3, .ref (d.ad 34)), (4, iV i)] [] 835 := by
  unfold p_op_11 at hq
  refine x_aload_n C 1 dL_law_835 rfl ?_
  refine x_aload_n C 0 dL_law_836 rfl ?_
  refine x_iload C 4 dL_law_837 rfl ?_
  refine x_iconst C dL_law_839 ?_
  refine x_iadd C dL_law_840 ?_
  refine q_sld C hX hb hbA ⟨by omega, by omega⟩ hL dL_law_841 ?_
  refine x_aload_n C 3 dL_law_842 rfl ?_
  refine q_wr (mc' := 1) (ms' := 6) (rm := rmv 8 133 1 6) (As := [.ref (d.ad 1), iV (sc xs (i + 1)), .ref (d.ad 34)]) (rest := []) C hA hR hNC mfL_freeIn lk_L_169 ⟨rfl, rfl⟩ ⟨Nat.le_of_ble_eq_true rfl, Nat.le_of_ble_eq_true rfl⟩ rfl rfl (Nat.le_of_ble_eq_true rfl) (lq hce (by decide) (by decide)) dL_law_843 hq (fun _ h => c_L_freeIn g.l g.G hfl h) (fun z1 d2 _ hq agd2 hn hc1 hc2 => ?_)
  have e1 := agq1 agd2; have e3 := agq3 agd2; rw [e1, e3]; rw [← hn] at hq
  refine x_istore C dL_law_846 (by decide) rfl ?_
  refine x_aload_n C 3 dL_law_848 rfl ?_
  refine x_aload_n C 1 dL_law_849 rfl ?_
  refine x_iload C 5 dL_law_850 rfl ?_
  refine x_iconst C dL_law_852 ?_
  refine x_iadd C dL_law_853 ?_
  refine q_sld C hX hb hbA ⟨by omega, by omega⟩ hL dL_law_854 ?_
  refine q_mI (rm := rmv 9 213 0 0) (K := 10) (o := 50) (As := [iV (sc xs (i + 1))]) (rest := []) C hA hR mf_X9_freeIn lk_L_171 rfl ⟨rfl, rfl⟩ (by decide) ⟨rfl, rfl⟩ ⟨Nat.le_of_ble_eq_true rfl, Nat.le_of_ble_eq_true rfl⟩ rfl rfl (Nat.le_of_ble_eq_true rfl) (lq1 hce hc1 hc2 (by decide) (by decide)) dL_law_855 hq (fun _ _ h => c_X9_freeIn g.l g.G rfl h) (fun rm3 wm3 _ hq => ?_)
  refine x_istore C dL_law_858 (by decide) rfl ?_
  refine x_aload_n C 4 dL_law_860 rfl ?_
  refine q_mI (rm := rmv 0 0 0 0) (K := 10) (o := 50) (As := []) (rest := []) C hA hR mf_X9_thrown lk_L_130 rfl ⟨rfl, rfl⟩ (by decide) ⟨rfl, rfl⟩ ⟨Nat.le_of_ble_eq_true rfl, Nat.le_of_ble_eq_true rfl⟩ rfl rfl (Nat.le_of_ble_eq_true rfl) (lq1 hce hc1 hc2 (by decide) (by decide)) dL_law_861 hq (fun _ _ h => c_X9_thrown g.l g.G rfl h) (fun rm4 wm4 _ hq => ?_)
  refine x_iload C 1 dL_law_864 rfl ?_
  refine x_icmp_eq (tgt := 871) C dL_law_866 (by decide) hq (fun hq => ?_) (fun hq => ?_)
  · refine x_iload C 1 dL_law_871 rfl ?_
    refine x_if_ne (tgt := 888) C dL_law_873 (by decide) hq (fun hq => ?_) (fun hq => ?_)
    · refine x_goto (tgt := 2560) C dL_law_888 (by decide) ?_
      refine XG.sub [2, 3, 4, 5, 6] rfl ?_
      exact K d2 _ _ (agd2) (lc hc1 (by decide)) (lc hc2 (by decide)) hq
    · refine x_aload_n C 5 dL_law_876 rfl ?_
      refine x_iconst C dL_law_877 ?_
      refine q_lald C (by decide) dL_law_878 ?_
      refine x_iload C 0 dL_law_879 rfl ?_
      refine x_i2l C dL_law_881 ?_
      refine x_lcmp C dL_law_882 ?_
      refine x_if_eq (tgt := 888) C dL_law_883 (by decide) hq (fun hq => ?_) (fun hq => ?_)
      · refine x_goto (tgt := 2560) C dL_law_888 (by decide) ?_
        refine XG.sub [2, 3, 4, 5, 6] rfl ?_
        exact K d2 _ _ (agd2) (lc hc1 (by decide)) (lc hc2 (by decide)) hq
      · exact nomatch hq
  · exact nomatch hq
theorem L_op_12 {g : Cx} {ret9 : Option FieldType} (C : CX g cL_law 9 ret9 RL) (hfl : g.l.stackTraces = false) (hA : ∀ q : Nat, g.s.heap.size ≤ q → g.A q) (hR : g.R = room_1) (hNC : NC3 g.s) {b L : Nat} {xs : Nat → Int32} (hX : va_X b L xs g.s g.s.heap) (hb : b < g.s.heap.size) (hbA : ¬ g.A b) (hL : L ≤ 3072) {i : Int} (hi : 0 ≤ i ∧ i + 5 < L) {d : Dl} {adM : Nat → Nat} {wC wM : Wd} (hce : d.ce + 15 ≤ MCL ∧ d.so + 852 ≤ MSL) {res : Nat × Wd × Wd} (hq : p_op_12 xs i d.na wC wM = some res)
    (K : ∀ (d1 : Dl) (w1 w2 : Wd), AG d.na d.ad d1 → d1.ce ≤ d.ce + 15 → d1.so ≤ d.so + 852 → some (d1.na, w1, w2) = some res → XG g d1 (hQ g d1 adM w1 w2) [(0, .ref b), (1, .ref (d1.ad 1)), (2, .ref (adM 50)), (3, .ref (d1.ad 34)), (4, iV i)] [] 2560) :
    XG g d (hQ g d adM wC wM) [(0, .ref b), (1, .ref (d.ad 1)), (2, .ref (adM 50)), (3, .ref (d.ad 34)), (4, iV i)] [] 891 := by
  unfold p_op_12 at hq
  refine x_aload_n C 1 dL_law_891 rfl ?_
  refine x_aload_n C 0 dL_law_892 rfl ?_
  refine x_iload C 4 dL_law_893 rfl ?_
  refine x_iconst C dL_law_895 ?_
  refine x_iadd C dL_law_896 ?_
  refine q_sld C hX hb hbA ⟨by omega, by omega⟩ hL dL_law_897 ?_
  refine x_aload_n C 3 dL_law_898 rfl ?_
  refine q_wr (mc' := 1) (ms' := 6) (rm := rmv 8 134 1 6) (As := [.ref (d.ad 1), iV (sc xs (i + 1)), .ref (d.ad 34)]) (rest := []) C hA hR hNC mfL_longestRun lk_L_172 ⟨rfl, rfl⟩ ⟨Nat.le_of_ble_eq_true rfl, Nat.le_of_ble_eq_true rfl⟩ rfl rfl (Nat.le_of_ble_eq_true rfl) (lq hce (by decide) (by decide)) dL_law_899 hq (fun _ h => c_L_longestRun g.l g.G hfl h) (fun z1 d2 _ hq agd2 hn hc1 hc2 => ?_)
  have e1 := agq1 agd2; have e3 := agq3 agd2; rw [e1, e3]; rw [← hn] at hq
  refine x_istore C dL_law_902 (by decide) rfl ?_
  refine x_aload_n C 3 dL_law_904 rfl ?_
  refine x_aload_n C 1 dL_law_905 rfl ?_
  refine x_iload C 5 dL_law_906 rfl ?_
  refine x_iconst C dL_law_908 ?_
  refine x_iadd C dL_law_909 ?_
  refine q_sld C hX hb hbA ⟨by omega, by omega⟩ hL dL_law_910 ?_
  refine q_mI (rm := rmv 3 69 0 0) (K := 10) (o := 50) (As := [iV (sc xs (i + 1))]) (rest := []) C hA hR mf_X9_longestRun lk_L_174 rfl ⟨rfl, rfl⟩ (by decide) ⟨rfl, rfl⟩ ⟨Nat.le_of_ble_eq_true rfl, Nat.le_of_ble_eq_true rfl⟩ rfl rfl (Nat.le_of_ble_eq_true rfl) (lq1 hce hc1 hc2 (by decide) (by decide)) dL_law_911 hq (fun _ _ h => c_X9_longestRun g.l g.G rfl h) (fun rm3 wm3 _ hq => ?_)
  refine x_istore C dL_law_914 (by decide) rfl ?_
  refine x_aload_n C 4 dL_law_916 rfl ?_
  refine q_mI (rm := rmv 0 0 0 0) (K := 10) (o := 50) (As := []) (rest := []) C hA hR mf_X9_thrown lk_L_130 rfl ⟨rfl, rfl⟩ (by decide) ⟨rfl, rfl⟩ ⟨Nat.le_of_ble_eq_true rfl, Nat.le_of_ble_eq_true rfl⟩ rfl rfl (Nat.le_of_ble_eq_true rfl) (lq1 hce hc1 hc2 (by decide) (by decide)) dL_law_917 hq (fun _ _ h => c_X9_thrown g.l g.G rfl h) (fun rm4 wm4 _ hq => ?_)
  refine x_iload C 1 dL_law_920 rfl ?_
  refine x_icmp_eq (tgt := 927) C dL_law_922 (by decide) hq (fun hq => ?_) (fun hq => ?_)
  · refine x_iload C 1 dL_law_927 rfl ?_
    refine x_if_ne (tgt := 944) C dL_law_929 (by decide) hq (fun hq => ?_) (fun hq => ?_)
    · refine x_goto (tgt := 2560) C dL_law_944 (by decide) ?_
      refine XG.sub [2, 3, 4, 5, 6] rfl ?_
      exact K d2 _ _ (agd2) (lc hc1 (by decide)) (lc hc2 (by decide)) hq
    · refine x_aload_n C 5 dL_law_932 rfl ?_
      refine x_iconst C dL_law_933 ?_
      refine q_lald C (by decide) dL_law_934 ?_
      refine x_iload C 0 dL_law_935 rfl ?_
      refine x_i2l C dL_law_937 ?_
      refine x_lcmp C dL_law_938 ?_
      refine x_if_eq (tgt := 944) C dL_law_939 (by decide) hq (fun hq => ?_) (fun hq => ?_)
      · refine x_goto (tgt := 2560) C dL_law_944 (by decide) ?_
        refine XG.sub [2, 3, 4, 5, 6] rfl ?_
        exact K d2 _ _ (agd2) (lc hc1 (by decide)) (lc hc2 (by decide)) hq
      · exact nomatch hq
  · exact nomatch hq
theorem L_op_13 {g : Cx} {ret9 : Option FieldType} (C : CX g cL_law 9 ret9 RL) (hfl : g.l.stackTraces = false) (hA : ∀ q : Nat, g.s.heap.size ≤ q → g.A q) (hR : g.R = room_1) (hNC : NC3 g.s) {b L : Nat} {xs : Nat → Int32} (hX : va_X b L xs g.s g.s.heap) (hb : b < g.s.heap.size) (hbA : ¬ g.A b) (hL : L ≤ 3072) {i : Int} (hi : 0 ≤ i ∧ i + 5 < L) {d : Dl} {adM : Nat → Nat} {wC wM : Wd} (hce : d.ce + 15 ≤ MCL ∧ d.so + 852 ≤ MSL) {res : Nat × Wd × Wd} (hq : p_op_13 xs i d.na wC wM = some res)
    (K : ∀ (d1 : Dl) (w1 w2 : Wd), AG d.na d.ad d1 → d1.ce ≤ d.ce + 15 → d1.so ≤ d.so + 852 → some (d1.na, w1, w2) = some res → XG g d1 (hQ g d1 adM w1 w2) [(0, .ref b), (1, .ref (d1.ad 1)), (2, .ref (adM 50)), (3, .ref (d1.ad 34)), (4, iV i)] [] 2560) :
    XG g d (hQ g d adM wC wM) [(0, .ref b), (1, .ref (d.ad 1)), (2, .ref (adM 50)), (3, .ref (d.ad 34)), (4, iV i)] [] 947 := by
  unfold p_op_13 at hq
  refine x_aload_n C 1 dL_law_947 rfl ?_
  refine q_cI (rm := rmv 1 21 0 0) (K := 9) (o := 1) (As := []) (rest := []) C hA hR mf_X8_rowsUsed lk_L_175 rfl ⟨rfl, rfl⟩ (by decide) ⟨rfl, rfl⟩ ⟨Nat.le_of_ble_eq_true rfl, Nat.le_of_ble_eq_true rfl⟩ rfl rfl (Nat.le_of_ble_eq_true rfl) (lq0 hce) dL_law_948 hq (fun _ _ h => c_X8_rowsUsed g.l g.G rfl h) (fun rm1 wm1 _ hq => ?_)
  refine x_aload_n C 2 dL_law_951 rfl ?_
  refine q_mI (rm := rmv 9 213 0 0) (K := 10) (o := 50) (As := []) (rest := [iV rm1]) C hA hR mf_X9_rowsUsed lk_L_178 rfl ⟨rfl, rfl⟩ (by decide) ⟨rfl, rfl⟩ ⟨Nat.le_of_ble_eq_true rfl, Nat.le_of_ble_eq_true rfl⟩ rfl rfl (Nat.le_of_ble_eq_true rfl) (lq0 hce) dL_law_952 hq (fun _ _ h => c_X9_rowsUsed g.l g.G rfl h) (fun rm2 wm2 _ hq => ?_)
  refine x_icmp_eq (tgt := 2560) C dL_law_955 (by decide) hq (fun hq => ?_) (fun hq => ?_)
  · exact K d _ _ (AG.rf _) (Nat.le_add_right _ _) (Nat.le_add_right _ _) hq
  · exact nomatch hq
theorem L_op_14 {g : Cx} {ret9 : Option FieldType} (C : CX g cL_law 9 ret9 RL) (hfl : g.l.stackTraces = false) (hA : ∀ q : Nat, g.s.heap.size ≤ q → g.A q) (hR : g.R = room_1) (hNC : NC3 g.s) {b L : Nat} {xs : Nat → Int32} (hX : va_X b L xs g.s g.s.heap) (hb : b < g.s.heap.size) (hbA : ¬ g.A b) (hL : L ≤ 3072) {i : Int} (hi : 0 ≤ i ∧ i + 5 < L) {d : Dl} {adM : Nat → Nat} {wC wM : Wd} (hce : d.ce + 15 ≤ MCL ∧ d.so + 852 ≤ MSL) {res : Nat × Wd × Wd} (hq : p_op_14 xs i d.na wC wM = some res)
    (K : ∀ (d1 : Dl) (w1 w2 : Wd), AG d.na d.ad d1 → d1.ce ≤ d.ce + 15 → d1.so ≤ d.so + 852 → some (d1.na, w1, w2) = some res → XG g d1 (hQ g d1 adM w1 w2) [(0, .ref b), (1, .ref (d1.ad 1)), (2, .ref (adM 50)), (3, .ref (d1.ad 34)), (4, iV i)] [] 2560) :
    XG g d (hQ g d adM wC wM) [(0, .ref b), (1, .ref (d.ad 1)), (2, .ref (adM 50)), (3, .ref (d.ad 34)), (4, iV i)] [] 960 := by
  unfold p_op_14 at hq
  refine x_aload_n C 1 dL_law_960 rfl ?_
  refine q_cI (rm := rmv 0 0 0 0) (K := 9) (o := 1) (As := []) (rest := []) C hA hR mf_X8_firstMissing lk_L_179 rfl ⟨rfl, rfl⟩ (by decide) ⟨rfl, rfl⟩ ⟨Nat.le_of_ble_eq_true rfl, Nat.le_of_ble_eq_true rfl⟩ rfl rfl (Nat.le_of_ble_eq_true rfl) (lq0 hce) dL_law_961 hq (fun _ _ h => c_X8_firstMissing g.l g.G rfl h) (fun rm1 wm1 _ hq => ?_)
  refine x_aload_n C 2 dL_law_964 rfl ?_
  refine q_mI (rm := rmv 9 213 0 0) (K := 10) (o := 50) (As := []) (rest := [iV rm1]) C hA hR mf_X9_firstMissing lk_L_182 rfl ⟨rfl, rfl⟩ (by decide) ⟨rfl, rfl⟩ ⟨Nat.le_of_ble_eq_true rfl, Nat.le_of_ble_eq_true rfl⟩ rfl rfl (Nat.le_of_ble_eq_true rfl) (lq0 hce) dL_law_965 hq (fun _ _ h => c_X9_firstMissing g.l g.G rfl h) (fun rm2 wm2 _ hq => ?_)
  refine x_icmp_eq (tgt := 2560) C dL_law_968 (by decide) hq (fun hq => ?_) (fun hq => ?_)
  · exact K d _ _ (AG.rf _) (Nat.le_add_right _ _) (Nat.le_add_right _ _) hq
  · exact nomatch hq
theorem L_op_15 {g : Cx} {ret9 : Option FieldType} (C : CX g cL_law 9 ret9 RL) (hfl : g.l.stackTraces = false) (hA : ∀ q : Nat, g.s.heap.size ≤ q → g.A q) (hR : g.R = room_1) (hNC : NC3 g.s) {b L : Nat} {xs : Nat → Int32} (hX : va_X b L xs g.s g.s.heap) (hb : b < g.s.heap.size) (hbA : ¬ g.A b) (hL : L ≤ 3072) {i : Int} (hi : 0 ≤ i ∧ i + 5 < L) {d : Dl} {adM : Nat → Nat} {wC wM : Wd} (hce : d.ce + 15 ≤ MCL ∧ d.so + 852 ≤ MSL) {res : Nat × Wd × Wd} (hq : p_op_15 xs i d.na wC wM = some res)
    (K : ∀ (d1 : Dl) (w1 w2 : Wd), AG d.na d.ad d1 → d1.ce ≤ d.ce + 15 → d1.so ≤ d.so + 852 → some (d1.na, w1, w2) = some res → XG g d1 (hQ g d1 adM w1 w2) [(0, .ref b), (1, .ref (d1.ad 1)), (2, .ref (adM 50)), (3, .ref (d1.ad 34)), (4, iV i)] [] 2560) :
    XG g d (hQ g d adM wC wM) [(0, .ref b), (1, .ref (d.ad 1)), (2, .ref (adM 50)), (3, .ref (d.ad 34)), (4, iV i)] [] 973 := by
  unfold p_op_15 at hq
  refine x_aload_n C 1 dL_law_973 rfl ?_
  refine q_cI (rm := rmv 2 45 0 0) (K := 9) (o := 1) (As := []) (rest := []) C hA hR mf_X8_strokesLeft lk_L_183 rfl ⟨rfl, rfl⟩ (by decide) ⟨rfl, rfl⟩ ⟨Nat.le_of_ble_eq_true rfl, Nat.le_of_ble_eq_true rfl⟩ rfl rfl (Nat.le_of_ble_eq_true rfl) (lq0 hce) dL_law_974 hq (fun _ _ h => c_X8_strokesLeft g.l g.G rfl h) (fun rm1 wm1 _ hq => ?_)
  refine x_aload_n C 2 dL_law_977 rfl ?_
  refine q_mI (rm := rmv 9 213 0 0) (K := 10) (o := 50) (As := []) (rest := [iV rm1]) C hA hR mf_X9_strokesLeft lk_L_186 rfl ⟨rfl, rfl⟩ (by decide) ⟨rfl, rfl⟩ ⟨Nat.le_of_ble_eq_true rfl, Nat.le_of_ble_eq_true rfl⟩ rfl rfl (Nat.le_of_ble_eq_true rfl) (lq0 hce) dL_law_978 hq (fun _ _ h => c_X9_strokesLeft g.l g.G rfl h) (fun rm2 wm2 _ hq => ?_)
  refine x_icmp_eq (tgt := 2560) C dL_law_981 (by decide) hq (fun hq => ?_) (fun hq => ?_)
  · exact K d _ _ (AG.rf _) (Nat.le_add_right _ _) (Nat.le_add_right _ _) hq
  · exact nomatch hq
theorem L_op_16 {g : Cx} {ret9 : Option FieldType} (C : CX g cL_law 9 ret9 RL) (hfl : g.l.stackTraces = false) (hA : ∀ q : Nat, g.s.heap.size ≤ q → g.A q) (hR : g.R = room_1) (hNC : NC3 g.s) {b L : Nat} {xs : Nat → Int32} (hX : va_X b L xs g.s g.s.heap) (hb : b < g.s.heap.size) (hbA : ¬ g.A b) (hL : L ≤ 3072) {i : Int} (hi : 0 ≤ i ∧ i + 5 < L) {d : Dl} {adM : Nat → Nat} {wC wM : Wd} (hce : d.ce + 15 ≤ MCL ∧ d.so + 852 ≤ MSL) {res : Nat × Wd × Wd} (hq : p_op_16 xs i d.na wC wM = some res)
    (K : ∀ (d1 : Dl) (w1 w2 : Wd), AG d.na d.ad d1 → d1.ce ≤ d.ce + 15 → d1.so ≤ d.so + 852 → some (d1.na, w1, w2) = some res → XG g d1 (hQ g d1 adM w1 w2) [(0, .ref b), (1, .ref (d1.ad 1)), (2, .ref (adM 50)), (3, .ref (d1.ad 34)), (4, iV i)] [] 2560) :
    XG g d (hQ g d adM wC wM) [(0, .ref b), (1, .ref (d.ad 1)), (2, .ref (adM 50)), (3, .ref (d.ad 34)), (4, iV i)] [] 986 := by
  unfold p_op_16 at hq
  refine x_aload_n C 1 dL_law_986 rfl ?_
  refine x_aload_n C 0 dL_law_987 rfl ?_
  refine x_iload C 4 dL_law_988 rfl ?_
  refine x_iconst C dL_law_990 ?_
  refine x_iadd C dL_law_991 ?_
  refine q_sld C hX hb hbA ⟨by omega, by omega⟩ hL dL_law_992 ?_
  refine x_aload_n C 3 dL_law_993 rfl ?_
  refine q_wr (mc' := 1) (ms' := 6) (rm := rmv 7 111 1 6) (As := [.ref (d.ad 1), iV (sc xs (i + 1)), .ref (d.ad 34)]) (rest := []) C hA hR hNC mfL_timeFor lk_L_187 ⟨rfl, rfl⟩ ⟨Nat.le_of_ble_eq_true rfl, Nat.le_of_ble_eq_true rfl⟩ rfl rfl (Nat.le_of_ble_eq_true rfl) (lq hce (by decide) (by decide)) dL_law_994 hq (fun _ h => c_L_timeFor g.l g.G hfl h) (fun z1 d2 _ hq agd2 hn hc1 hc2 => ?_)
  have e1 := agq1 agd2; have e3 := agq3 agd2; rw [e1, e3]; rw [← hn] at hq
  refine x_istore C dL_law_997 (by decide) rfl ?_
  refine x_aload_n C 3 dL_law_999 rfl ?_
  refine x_aload_n C 1 dL_law_1000 rfl ?_
  refine x_iload C 5 dL_law_1001 rfl ?_
  refine x_iconst C dL_law_1003 ?_
  refine x_iadd C dL_law_1004 ?_
  refine q_sld C hX hb hbA ⟨by omega, by omega⟩ hL dL_law_1005 ?_
  refine q_mI (rm := rmv 9 213 0 0) (K := 10) (o := 50) (As := [iV (sc xs (i + 1))]) (rest := []) C hA hR mf_X9_timeFor lk_L_189 rfl ⟨rfl, rfl⟩ (by decide) ⟨rfl, rfl⟩ ⟨Nat.le_of_ble_eq_true rfl, Nat.le_of_ble_eq_true rfl⟩ rfl rfl (Nat.le_of_ble_eq_true rfl) (lq1 hce hc1 hc2 (by decide) (by decide)) dL_law_1006 hq (fun _ _ h => c_X9_timeFor g.l g.G rfl h) (fun rm3 wm3 _ hq => ?_)
  refine x_istore C dL_law_1009 (by decide) rfl ?_
  refine x_aload_n C 4 dL_law_1011 rfl ?_
  refine q_mI (rm := rmv 0 0 0 0) (K := 10) (o := 50) (As := []) (rest := []) C hA hR mf_X9_thrown lk_L_130 rfl ⟨rfl, rfl⟩ (by decide) ⟨rfl, rfl⟩ ⟨Nat.le_of_ble_eq_true rfl, Nat.le_of_ble_eq_true rfl⟩ rfl rfl (Nat.le_of_ble_eq_true rfl) (lq1 hce hc1 hc2 (by decide) (by decide)) dL_law_1012 hq (fun _ _ h => c_X9_thrown g.l g.G rfl h) (fun rm4 wm4 _ hq => ?_)
  refine x_iload C 1 dL_law_1015 rfl ?_
  refine x_icmp_eq (tgt := 1022) C dL_law_1017 (by decide) hq (fun hq => ?_) (fun hq => ?_)
  · refine x_iload C 1 dL_law_1022 rfl ?_
    refine x_if_ne (tgt := 1039) C dL_law_1024 (by decide) hq (fun hq => ?_) (fun hq => ?_)
    · refine x_goto (tgt := 2560) C dL_law_1039 (by decide) ?_
      refine XG.sub [2, 3, 4, 5, 6] rfl ?_
      exact K d2 _ _ (agd2) (lc hc1 (by decide)) (lc hc2 (by decide)) hq
    · refine x_aload_n C 5 dL_law_1027 rfl ?_
      refine x_iconst C dL_law_1028 ?_
      refine q_lald C (by decide) dL_law_1029 ?_
      refine x_iload C 0 dL_law_1030 rfl ?_
      refine x_i2l C dL_law_1032 ?_
      refine x_lcmp C dL_law_1033 ?_
      refine x_if_eq (tgt := 1039) C dL_law_1034 (by decide) hq (fun hq => ?_) (fun hq => ?_)
      · refine x_goto (tgt := 2560) C dL_law_1039 (by decide) ?_
        refine XG.sub [2, 3, 4, 5, 6] rfl ?_
        exact K d2 _ _ (agd2) (lc hc1 (by decide)) (lc hc2 (by decide)) hq
      · exact nomatch hq
  · exact nomatch hq
theorem L_op_17 {g : Cx} {ret9 : Option FieldType} (C : CX g cL_law 9 ret9 RL) (hfl : g.l.stackTraces = false) (hA : ∀ q : Nat, g.s.heap.size ≤ q → g.A q) (hR : g.R = room_1) (hNC : NC3 g.s) {b L : Nat} {xs : Nat → Int32} (hX : va_X b L xs g.s g.s.heap) (hb : b < g.s.heap.size) (hbA : ¬ g.A b) (hL : L ≤ 3072) {i : Int} (hi : 0 ≤ i ∧ i + 5 < L) {d : Dl} {adM : Nat → Nat} {wC wM : Wd} (hce : d.ce + 15 ≤ MCL ∧ d.so + 852 ≤ MSL) {res : Nat × Wd × Wd} (hq : p_op_17 xs i d.na wC wM = some res)
    (K : ∀ (d1 : Dl) (w1 w2 : Wd), AG d.na d.ad d1 → d1.ce ≤ d.ce + 15 → d1.so ≤ d.so + 852 → some (d1.na, w1, w2) = some res → XG g d1 (hQ g d1 adM w1 w2) [(0, .ref b), (1, .ref (d1.ad 1)), (2, .ref (adM 50)), (3, .ref (d1.ad 34)), (4, iV i)] [] 2560) :
    XG g d (hQ g d adM wC wM) [(0, .ref b), (1, .ref (d.ad 1)), (2, .ref (adM 50)), (3, .ref (d.ad 34)), (4, iV i)] [] 1042 := by
  unfold p_op_17 at hq
  refine x_aload_n C 1 dL_law_1042 rfl ?_
  refine x_aload_n C 0 dL_law_1043 rfl ?_
  refine x_iload C 4 dL_law_1044 rfl ?_
  refine x_iconst C dL_law_1046 ?_
  refine x_iadd C dL_law_1047 ?_
  refine q_sld C hX hb hbA ⟨by omega, by omega⟩ hL dL_law_1048 ?_
  refine x_aload_n C 3 dL_law_1049 rfl ?_
  refine q_wr (mc' := 1) (ms' := 6) (rm := rmv 7 112 1 6) (As := [.ref (d.ad 1), iV (sc xs (i + 1)), .ref (d.ad 34)]) (rest := []) C hA hR hNC mfL_lettersIn lk_L_190 ⟨rfl, rfl⟩ ⟨Nat.le_of_ble_eq_true rfl, Nat.le_of_ble_eq_true rfl⟩ rfl rfl (Nat.le_of_ble_eq_true rfl) (lq hce (by decide) (by decide)) dL_law_1050 hq (fun _ h => c_L_lettersIn g.l g.G hfl h) (fun z1 d2 _ hq agd2 hn hc1 hc2 => ?_)
  have e1 := agq1 agd2; have e3 := agq3 agd2; rw [e1, e3]; rw [← hn] at hq
  refine x_istore C dL_law_1053 (by decide) rfl ?_
  refine x_aload_n C 3 dL_law_1055 rfl ?_
  refine x_aload_n C 1 dL_law_1056 rfl ?_
  refine x_iload C 5 dL_law_1057 rfl ?_
  refine x_iconst C dL_law_1059 ?_
  refine x_iadd C dL_law_1060 ?_
  refine q_sld C hX hb hbA ⟨by omega, by omega⟩ hL dL_law_1061 ?_
  refine q_mI (rm := rmv 9 213 0 0) (K := 10) (o := 50) (As := [iV (sc xs (i + 1))]) (rest := []) C hA hR mf_X9_lettersIn lk_L_192 rfl ⟨rfl, rfl⟩ (by decide) ⟨rfl, rfl⟩ ⟨Nat.le_of_ble_eq_true rfl, Nat.le_of_ble_eq_true rfl⟩ rfl rfl (Nat.le_of_ble_eq_true rfl) (lq1 hce hc1 hc2 (by decide) (by decide)) dL_law_1062 hq (fun _ _ h => c_X9_lettersIn g.l g.G rfl h) (fun rm3 wm3 _ hq => ?_)
  refine x_istore C dL_law_1065 (by decide) rfl ?_
  refine x_aload_n C 4 dL_law_1067 rfl ?_
  refine q_mI (rm := rmv 0 0 0 0) (K := 10) (o := 50) (As := []) (rest := []) C hA hR mf_X9_thrown lk_L_130 rfl ⟨rfl, rfl⟩ (by decide) ⟨rfl, rfl⟩ ⟨Nat.le_of_ble_eq_true rfl, Nat.le_of_ble_eq_true rfl⟩ rfl rfl (Nat.le_of_ble_eq_true rfl) (lq1 hce hc1 hc2 (by decide) (by decide)) dL_law_1068 hq (fun _ _ h => c_X9_thrown g.l g.G rfl h) (fun rm4 wm4 _ hq => ?_)
  refine x_iload C 1 dL_law_1071 rfl ?_
  refine x_icmp_eq (tgt := 1078) C dL_law_1073 (by decide) hq (fun hq => ?_) (fun hq => ?_)
  · refine x_iload C 1 dL_law_1078 rfl ?_
    refine x_if_ne (tgt := 1095) C dL_law_1080 (by decide) hq (fun hq => ?_) (fun hq => ?_)
    · refine x_goto (tgt := 2560) C dL_law_1095 (by decide) ?_
      refine XG.sub [2, 3, 4, 5, 6] rfl ?_
      exact K d2 _ _ (agd2) (lc hc1 (by decide)) (lc hc2 (by decide)) hq
    · refine x_aload_n C 5 dL_law_1083 rfl ?_
      refine x_iconst C dL_law_1084 ?_
      refine q_lald C (by decide) dL_law_1085 ?_
      refine x_iload C 0 dL_law_1086 rfl ?_
      refine x_i2l C dL_law_1088 ?_
      refine x_lcmp C dL_law_1089 ?_
      refine x_if_eq (tgt := 1095) C dL_law_1090 (by decide) hq (fun hq => ?_) (fun hq => ?_)
      · refine x_goto (tgt := 2560) C dL_law_1095 (by decide) ?_
        refine XG.sub [2, 3, 4, 5, 6] rfl ?_
        exact K d2 _ _ (agd2) (lc hc1 (by decide)) (lc hc2 (by decide)) hq
      · exact nomatch hq
  · exact nomatch hq
theorem L_op_18 {g : Cx} {ret9 : Option FieldType} (C : CX g cL_law 9 ret9 RL) (hfl : g.l.stackTraces = false) (hA : ∀ q : Nat, g.s.heap.size ≤ q → g.A q) (hR : g.R = room_1) (hNC : NC3 g.s) {b L : Nat} {xs : Nat → Int32} (hX : va_X b L xs g.s g.s.heap) (hb : b < g.s.heap.size) (hbA : ¬ g.A b) (hL : L ≤ 3072) {i : Int} (hi : 0 ≤ i ∧ i + 5 < L) {d : Dl} {adM : Nat → Nat} {wC wM : Wd} (hce : d.ce + 15 ≤ MCL ∧ d.so + 852 ≤ MSL) {res : Nat × Wd × Wd} (hq : p_op_18 xs i d.na wC wM = some res)
    (K : ∀ (d1 : Dl) (w1 w2 : Wd), AG d.na d.ad d1 → d1.ce ≤ d.ce + 15 → d1.so ≤ d.so + 852 → some (d1.na, w1, w2) = some res → XG g d1 (hQ g d1 adM w1 w2) [(0, .ref b), (1, .ref (d1.ad 1)), (2, .ref (adM 50)), (3, .ref (d1.ad 34)), (4, iV i)] [] 2560) :
    XG g d (hQ g d adM wC wM) [(0, .ref b), (1, .ref (d.ad 1)), (2, .ref (adM 50)), (3, .ref (d.ad 34)), (4, iV i)] [] 1098 := by
  unfold p_op_18 at hq
  refine x_aload_n C 1 dL_law_1098 rfl ?_
  refine q_cI (rm := rmv 3 65 0 0) (K := 9) (o := 1) (As := []) (rest := []) C hA hR mf_X8_sharpenings lk_L_193 rfl ⟨rfl, rfl⟩ (by decide) ⟨rfl, rfl⟩ ⟨Nat.le_of_ble_eq_true rfl, Nat.le_of_ble_eq_true rfl⟩ rfl rfl (Nat.le_of_ble_eq_true rfl) (lq0 hce) dL_law_1099 hq (fun _ _ h => c_X8_sharpenings g.l g.G rfl h) (fun rm1 wm1 _ hq => ?_)
  refine x_aload_n C 2 dL_law_1102 rfl ?_
  refine q_mI (rm := rmv 9 213 0 0) (K := 10) (o := 50) (As := []) (rest := [iV rm1]) C hA hR mf_X9_sharpenings lk_L_196 rfl ⟨rfl, rfl⟩ (by decide) ⟨rfl, rfl⟩ ⟨Nat.le_of_ble_eq_true rfl, Nat.le_of_ble_eq_true rfl⟩ rfl rfl (Nat.le_of_ble_eq_true rfl) (lq0 hce) dL_law_1103 hq (fun _ _ h => c_X9_sharpenings g.l g.G rfl h) (fun rm2 wm2 _ hq => ?_)
  refine x_icmp_eq (tgt := 2560) C dL_law_1106 (by decide) hq (fun hq => ?_) (fun hq => ?_)
  · exact K d _ _ (AG.rf _) (Nat.le_add_right _ _) (Nat.le_add_right _ _) hq
  · exact nomatch hq
theorem L_op_19 {g : Cx} {ret9 : Option FieldType} (C : CX g cL_law 9 ret9 RL) (hfl : g.l.stackTraces = false) (hA : ∀ q : Nat, g.s.heap.size ≤ q → g.A q) (hR : g.R = room_1) (hNC : NC3 g.s) {b L : Nat} {xs : Nat → Int32} (hX : va_X b L xs g.s g.s.heap) (hb : b < g.s.heap.size) (hbA : ¬ g.A b) (hL : L ≤ 3072) {i : Int} (hi : 0 ≤ i ∧ i + 5 < L) {d : Dl} {adM : Nat → Nat} {wC wM : Wd} (hce : d.ce + 15 ≤ MCL ∧ d.so + 852 ≤ MSL) {res : Nat × Wd × Wd} (hq : p_op_19 xs i d.na wC wM = some res)
    (K : ∀ (d1 : Dl) (w1 w2 : Wd), AG d.na d.ad d1 → d1.ce ≤ d.ce + 15 → d1.so ≤ d.so + 852 → some (d1.na, w1, w2) = some res → XG g d1 (hQ g d1 adM w1 w2) [(0, .ref b), (1, .ref (d1.ad 1)), (2, .ref (adM 50)), (3, .ref (d1.ad 34)), (4, iV i)] [] 2560) :
    XG g d (hQ g d adM wC wM) [(0, .ref b), (1, .ref (d.ad 1)), (2, .ref (adM 50)), (3, .ref (d.ad 34)), (4, iV i)] [] 1111 := by
  unfold p_op_19 at hq
  refine x_aload_n C 1 dL_law_1111 rfl ?_
  refine x_aload_n C 0 dL_law_1112 rfl ?_
  refine x_iload C 4 dL_law_1113 rfl ?_
  refine x_iconst C dL_law_1115 ?_
  refine x_iadd C dL_law_1116 ?_
  refine q_sld C hX hb hbA ⟨by omega, by omega⟩ hL dL_law_1117 ?_
  refine x_aload_n C 3 dL_law_1118 rfl ?_
  refine q_wr (mc' := 1) (ms' := 6) (rm := rmv 7 110 1 6) (As := [.ref (d.ad 1), iV (sc xs (i + 1)), .ref (d.ad 34)]) (rest := []) C hA hR hNC mfL_timeWith lk_L_197 ⟨rfl, rfl⟩ ⟨Nat.le_of_ble_eq_true rfl, Nat.le_of_ble_eq_true rfl⟩ rfl rfl (Nat.le_of_ble_eq_true rfl) (lq hce (by decide) (by decide)) dL_law_1119 hq (fun _ h => c_L_timeWith g.l g.G hfl h) (fun z1 d2 _ hq agd2 hn hc1 hc2 => ?_)
  have e1 := agq1 agd2; have e3 := agq3 agd2; rw [e1, e3]; rw [← hn] at hq
  refine x_istore C dL_law_1122 (by decide) rfl ?_
  refine x_aload_n C 3 dL_law_1124 rfl ?_
  refine x_aload_n C 1 dL_law_1125 rfl ?_
  refine x_iload C 5 dL_law_1126 rfl ?_
  refine x_iconst C dL_law_1128 ?_
  refine x_iadd C dL_law_1129 ?_
  refine q_sld C hX hb hbA ⟨by omega, by omega⟩ hL dL_law_1130 ?_
  refine q_mI (rm := rmv 9 213 0 0) (K := 10) (o := 50) (As := [iV (sc xs (i + 1))]) (rest := []) C hA hR mf_X9_timeWith lk_L_199 rfl ⟨rfl, rfl⟩ (by decide) ⟨rfl, rfl⟩ ⟨Nat.le_of_ble_eq_true rfl, Nat.le_of_ble_eq_true rfl⟩ rfl rfl (Nat.le_of_ble_eq_true rfl) (lq1 hce hc1 hc2 (by decide) (by decide)) dL_law_1131 hq (fun _ _ h => c_X9_timeWith g.l g.G rfl h) (fun rm3 wm3 _ hq => ?_)
  refine x_istore C dL_law_1134 (by decide) rfl ?_
  refine x_aload_n C 4 dL_law_1136 rfl ?_
  refine q_mI (rm := rmv 0 0 0 0) (K := 10) (o := 50) (As := []) (rest := []) C hA hR mf_X9_thrown lk_L_130 rfl ⟨rfl, rfl⟩ (by decide) ⟨rfl, rfl⟩ ⟨Nat.le_of_ble_eq_true rfl, Nat.le_of_ble_eq_true rfl⟩ rfl rfl (Nat.le_of_ble_eq_true rfl) (lq1 hce hc1 hc2 (by decide) (by decide)) dL_law_1137 hq (fun _ _ h => c_X9_thrown g.l g.G rfl h) (fun rm4 wm4 _ hq => ?_)
  refine x_iload C 1 dL_law_1140 rfl ?_
  refine x_icmp_eq (tgt := 1147) C dL_law_1142 (by decide) hq (fun hq => ?_) (fun hq => ?_)
  · refine x_iload C 1 dL_law_1147 rfl ?_
    refine x_if_ne (tgt := 1164) C dL_law_1149 (by decide) hq (fun hq => ?_) (fun hq => ?_)
    · refine x_goto (tgt := 2560) C dL_law_1164 (by decide) ?_
      refine XG.sub [2, 3, 4, 5, 6] rfl ?_
      exact K d2 _ _ (agd2) (lc hc1 (by decide)) (lc hc2 (by decide)) hq
    · refine x_aload_n C 5 dL_law_1152 rfl ?_
      refine x_iconst C dL_law_1153 ?_
      refine q_lald C (by decide) dL_law_1154 ?_
      refine x_iload C 0 dL_law_1155 rfl ?_
      refine x_i2l C dL_law_1157 ?_
      refine x_lcmp C dL_law_1158 ?_
      refine x_if_eq (tgt := 1164) C dL_law_1159 (by decide) hq (fun hq => ?_) (fun hq => ?_)
      · refine x_goto (tgt := 2560) C dL_law_1164 (by decide) ?_
        refine XG.sub [2, 3, 4, 5, 6] rfl ?_
        exact K d2 _ _ (agd2) (lc hc1 (by decide)) (lc hc2 (by decide)) hq
      · exact nomatch hq
  · exact nomatch hq
theorem L_op_20 {g : Cx} {ret9 : Option FieldType} (C : CX g cL_law 9 ret9 RL) (hfl : g.l.stackTraces = false) (hA : ∀ q : Nat, g.s.heap.size ≤ q → g.A q) (hR : g.R = room_1) (hNC : NC3 g.s) {b L : Nat} {xs : Nat → Int32} (hX : va_X b L xs g.s g.s.heap) (hb : b < g.s.heap.size) (hbA : ¬ g.A b) (hL : L ≤ 3072) {i : Int} (hi : 0 ≤ i ∧ i + 5 < L) {d : Dl} {adM : Nat → Nat} {wC wM : Wd} (hce : d.ce + 15 ≤ MCL ∧ d.so + 852 ≤ MSL) {res : Nat × Wd × Wd} (hq : p_op_20 xs i d.na wC wM = some res)
    (K : ∀ (d1 : Dl) (w1 w2 : Wd), AG d.na d.ad d1 → d1.ce ≤ d.ce + 15 → d1.so ≤ d.so + 852 → some (d1.na, w1, w2) = some res → XG g d1 (hQ g d1 adM w1 w2) [(0, .ref b), (1, .ref (d1.ad 1)), (2, .ref (adM 50)), (3, .ref (d1.ad 34)), (4, iV i)] [] 2560) :
    XG g d (hQ g d adM wC wM) [(0, .ref b), (1, .ref (d.ad 1)), (2, .ref (adM 50)), (3, .ref (d.ad 34)), (4, iV i)] [] 1167 := by
  unfold p_op_20 at hq
  refine x_aload_n C 1 dL_law_1167 rfl ?_
  refine q_cI (rm := rmv 1 21 0 0) (K := 9) (o := 1) (As := []) (rest := []) C hA hR mf_X8_nextCell lk_L_200 rfl ⟨rfl, rfl⟩ (by decide) ⟨rfl, rfl⟩ ⟨Nat.le_of_ble_eq_true rfl, Nat.le_of_ble_eq_true rfl⟩ rfl rfl (Nat.le_of_ble_eq_true rfl) (lq0 hce) dL_law_1168 hq (fun _ _ h => c_X8_nextCell g.l g.G rfl h) (fun rm1 wm1 _ hq => ?_)
  refine x_aload_n C 2 dL_law_1171 rfl ?_
  refine q_mI (rm := rmv 9 213 0 0) (K := 10) (o := 50) (As := []) (rest := [iV rm1]) C hA hR mf_X9_nextCell lk_L_203 rfl ⟨rfl, rfl⟩ (by decide) ⟨rfl, rfl⟩ ⟨Nat.le_of_ble_eq_true rfl, Nat.le_of_ble_eq_true rfl⟩ rfl rfl (Nat.le_of_ble_eq_true rfl) (lq0 hce) dL_law_1172 hq (fun _ _ h => c_X9_nextCell g.l g.G rfl h) (fun rm2 wm2 _ hq => ?_)
  refine x_icmp_eq (tgt := 2560) C dL_law_1175 (by decide) hq (fun hq => ?_) (fun hq => ?_)
  · exact K d _ _ (AG.rf _) (Nat.le_add_right _ _) (Nat.le_add_right _ _) hq
  · exact nomatch hq
theorem L_op_21 {g : Cx} {ret9 : Option FieldType} (C : CX g cL_law 9 ret9 RL) (hfl : g.l.stackTraces = false) (hA : ∀ q : Nat, g.s.heap.size ≤ q → g.A q) (hR : g.R = room_1) (hNC : NC3 g.s) {b L : Nat} {xs : Nat → Int32} (hX : va_X b L xs g.s g.s.heap) (hb : b < g.s.heap.size) (hbA : ¬ g.A b) (hL : L ≤ 3072) {i : Int} (hi : 0 ≤ i ∧ i + 5 < L) {d : Dl} {adM : Nat → Nat} {wC wM : Wd} (hce : d.ce + 15 ≤ MCL ∧ d.so + 852 ≤ MSL) {res : Nat × Wd × Wd} (hq : p_op_21 xs i d.na wC wM = some res)
    (K : ∀ (d1 : Dl) (w1 w2 : Wd), AG d.na d.ad d1 → d1.ce ≤ d.ce + 15 → d1.so ≤ d.so + 852 → some (d1.na, w1, w2) = some res → XG g d1 (hQ g d1 adM w1 w2) [(0, .ref b), (1, .ref (d1.ad 1)), (2, .ref (adM 50)), (3, .ref (d1.ad 34)), (4, iV i)] [] 2560) :
    XG g d (hQ g d adM wC wM) [(0, .ref b), (1, .ref (d.ad 1)), (2, .ref (adM 50)), (3, .ref (d.ad 34)), (4, iV i)] [] 1180 := by
  unfold p_op_21 at hq
  refine x_aload_n C 1 dL_law_1180 rfl ?_
  refine x_aload_n C 0 dL_law_1181 rfl ?_
  refine x_iload C 4 dL_law_1182 rfl ?_
  refine x_iconst C dL_law_1184 ?_
  refine x_iadd C dL_law_1185 ?_
  refine q_sld C hX hb hbA ⟨by omega, by omega⟩ hL dL_law_1186 ?_
  refine x_aload_n C 0 dL_law_1187 rfl ?_
  refine x_iload C 4 dL_law_1188 rfl ?_
  refine x_iconst C dL_law_1190 ?_
  refine x_iadd C dL_law_1191 ?_
  refine q_sld C hX hb hbA ⟨by omega, by omega⟩ hL dL_law_1192 ?_
  refine x_aload_n C 3 dL_law_1193 rfl ?_
  refine q_wr (mc' := 2) (ms' := 12) (rm := rmv 9 154 2 12) (As := [.ref (d.ad 1), iV (sc xs (i + 1)), iV (sc xs (i + 2)), .ref (d.ad 34)]) (rest := []) C hA hR hNC mfL_laidIf lk_L_204 ⟨rfl, rfl⟩ ⟨Nat.le_of_ble_eq_true rfl, Nat.le_of_ble_eq_true rfl⟩ rfl rfl (Nat.le_of_ble_eq_true rfl) (lq hce (by decide) (by decide)) dL_law_1194 hq (fun _ h => c_L_laidIf g.l g.G hfl h) (fun z1 d2 _ hq agd2 hn hc1 hc2 => ?_)
  have e1 := agq1 agd2; have e3 := agq3 agd2; rw [e1, e3]; rw [← hn] at hq
  refine x_istore C dL_law_1197 (by decide) rfl ?_
  refine x_aload_n C 3 dL_law_1199 rfl ?_
  refine x_aload_n C 1 dL_law_1200 rfl ?_
  refine x_iload C 5 dL_law_1201 rfl ?_
  refine x_iconst C dL_law_1203 ?_
  refine x_iadd C dL_law_1204 ?_
  refine q_sld C hX hb hbA ⟨by omega, by omega⟩ hL dL_law_1205 ?_
  refine x_aload_n C 1 dL_law_1206 rfl ?_
  refine x_iload C 5 dL_law_1207 rfl ?_
  refine x_iconst C dL_law_1209 ?_
  refine x_iadd C dL_law_1210 ?_
  refine q_sld C hX hb hbA ⟨by omega, by omega⟩ hL dL_law_1211 ?_
  refine q_mI (rm := rmv 9 213 0 0) (K := 10) (o := 50) (As := [iV (sc xs (i + 1)), iV (sc xs (i + 2))]) (rest := []) C hA hR mf_X9_laidIf lk_L_206 rfl ⟨rfl, rfl⟩ (by decide) ⟨rfl, rfl⟩ ⟨Nat.le_of_ble_eq_true rfl, Nat.le_of_ble_eq_true rfl⟩ rfl rfl (Nat.le_of_ble_eq_true rfl) (lq1 hce hc1 hc2 (by decide) (by decide)) dL_law_1212 hq (fun _ _ h => c_X9_laidIf g.l g.G rfl h) (fun rm3 wm3 _ hq => ?_)
  refine x_istore C dL_law_1215 (by decide) rfl ?_
  refine x_aload_n C 4 dL_law_1217 rfl ?_
  refine q_mI (rm := rmv 0 0 0 0) (K := 10) (o := 50) (As := []) (rest := []) C hA hR mf_X9_thrown lk_L_130 rfl ⟨rfl, rfl⟩ (by decide) ⟨rfl, rfl⟩ ⟨Nat.le_of_ble_eq_true rfl, Nat.le_of_ble_eq_true rfl⟩ rfl rfl (Nat.le_of_ble_eq_true rfl) (lq1 hce hc1 hc2 (by decide) (by decide)) dL_law_1218 hq (fun _ _ h => c_X9_thrown g.l g.G rfl h) (fun rm4 wm4 _ hq => ?_)
  refine x_iload C 1 dL_law_1221 rfl ?_
  refine x_icmp_eq (tgt := 1228) C dL_law_1223 (by decide) hq (fun hq => ?_) (fun hq => ?_)
  · refine x_iload C 1 dL_law_1228 rfl ?_
    refine x_if_ne (tgt := 1245) C dL_law_1230 (by decide) hq (fun hq => ?_) (fun hq => ?_)
    · refine x_goto (tgt := 2560) C dL_law_1245 (by decide) ?_
      refine XG.sub [2, 3, 4, 5, 6] rfl ?_
      exact K d2 _ _ (agd2) (lc hc1 (by decide)) (lc hc2 (by decide)) hq
    · refine x_aload_n C 5 dL_law_1233 rfl ?_
      refine x_iconst C dL_law_1234 ?_
      refine q_lald C (by decide) dL_law_1235 ?_
      refine x_iload C 0 dL_law_1236 rfl ?_
      refine x_i2l C dL_law_1238 ?_
      refine x_lcmp C dL_law_1239 ?_
      refine x_if_eq (tgt := 1245) C dL_law_1240 (by decide) hq (fun hq => ?_) (fun hq => ?_)
      · refine x_goto (tgt := 2560) C dL_law_1245 (by decide) ?_
        refine XG.sub [2, 3, 4, 5, 6] rfl ?_
        exact K d2 _ _ (agd2) (lc hc1 (by decide)) (lc hc2 (by decide)) hq
      · exact nomatch hq
  · exact nomatch hq
theorem L_op_22 {g : Cx} {ret9 : Option FieldType} (C : CX g cL_law 9 ret9 RL) (hfl : g.l.stackTraces = false) (hA : ∀ q : Nat, g.s.heap.size ≤ q → g.A q) (hR : g.R = room_1) (hNC : NC3 g.s) {b L : Nat} {xs : Nat → Int32} (hX : va_X b L xs g.s g.s.heap) (hb : b < g.s.heap.size) (hbA : ¬ g.A b) (hL : L ≤ 3072) {i : Int} (hi : 0 ≤ i ∧ i + 5 < L) {d : Dl} {adM : Nat → Nat} {wC wM : Wd} (hce : d.ce + 15 ≤ MCL ∧ d.so + 852 ≤ MSL) {res : Nat × Wd × Wd} (hq : p_op_22 xs i d.na wC wM = some res)
    (K : ∀ (d1 : Dl) (w1 w2 : Wd), AG d.na d.ad d1 → d1.ce ≤ d.ce + 15 → d1.so ≤ d.so + 852 → some (d1.na, w1, w2) = some res → XG g d1 (hQ g d1 adM w1 w2) [(0, .ref b), (1, .ref (d1.ad 1)), (2, .ref (adM 50)), (3, .ref (d1.ad 34)), (4, iV i)] [] 2560) :
    XG g d (hQ g d adM wC wM) [(0, .ref b), (1, .ref (d.ad 1)), (2, .ref (adM 50)), (3, .ref (d.ad 34)), (4, iV i)] [] 1248 := by
  unfold p_op_22 at hq
  refine x_aload_n C 1 dL_law_1248 rfl ?_
  refine q_cI (rm := rmv 5 119 0 0) (K := 9) (o := 1) (As := []) (rest := []) C hA hR mf_X8_worstFlaw lk_L_207 rfl ⟨rfl, rfl⟩ (by decide) ⟨rfl, rfl⟩ ⟨Nat.le_of_ble_eq_true rfl, Nat.le_of_ble_eq_true rfl⟩ rfl rfl (Nat.le_of_ble_eq_true rfl) (lq0 hce) dL_law_1249 hq (fun _ _ h => c_X8_worstFlaw g.l g.G rfl h) (fun rm1 wm1 _ hq => ?_)
  refine x_aload_n C 2 dL_law_1252 rfl ?_
  refine q_mI (rm := rmv 10 235 0 0) (K := 10) (o := 50) (As := []) (rest := [iV rm1]) C hA hR mf_X9_worstFlaw lk_L_210 rfl ⟨rfl, rfl⟩ (by decide) ⟨rfl, rfl⟩ ⟨Nat.le_of_ble_eq_true rfl, Nat.le_of_ble_eq_true rfl⟩ rfl rfl (Nat.le_of_ble_eq_true rfl) (lq0 hce) dL_law_1253 hq (fun _ _ h => c_X9_worstFlaw g.l g.G rfl h) (fun rm2 wm2 _ hq => ?_)
  refine x_icmp_eq (tgt := 2560) C dL_law_1256 (by decide) hq (fun hq => ?_) (fun hq => ?_)
  · exact K d _ _ (AG.rf _) (Nat.le_add_right _ _) (Nat.le_add_right _ _) hq
  · exact nomatch hq
theorem L_op_23 {g : Cx} {ret9 : Option FieldType} (C : CX g cL_law 9 ret9 RL) (hfl : g.l.stackTraces = false) (hA : ∀ q : Nat, g.s.heap.size ≤ q → g.A q) (hR : g.R = room_1) (hNC : NC3 g.s) {b L : Nat} {xs : Nat → Int32} (hX : va_X b L xs g.s g.s.heap) (hb : b < g.s.heap.size) (hbA : ¬ g.A b) (hL : L ≤ 3072) {i : Int} (hi : 0 ≤ i ∧ i + 5 < L) {d : Dl} {adM : Nat → Nat} {wC wM : Wd} (hce : d.ce + 15 ≤ MCL ∧ d.so + 852 ≤ MSL) {res : Nat × Wd × Wd} (hq : p_op_23 xs i d.na wC wM = some res)
    (K : ∀ (d1 : Dl) (w1 w2 : Wd), AG d.na d.ad d1 → d1.ce ≤ d.ce + 15 → d1.so ≤ d.so + 852 → some (d1.na, w1, w2) = some res → XG g d1 (hQ g d1 adM w1 w2) [(0, .ref b), (1, .ref (d1.ad 1)), (2, .ref (adM 50)), (3, .ref (d1.ad 34)), (4, iV i)] [] 2560) :
    XG g d (hQ g d adM wC wM) [(0, .ref b), (1, .ref (d.ad 1)), (2, .ref (adM 50)), (3, .ref (d.ad 34)), (4, iV i)] [] 1261 := by
  unfold p_op_23 at hq
  refine x_aload_n C 1 dL_law_1261 rfl ?_
  refine q_cI (rm := rmv 5 119 0 0) (K := 9) (o := 1) (As := []) (rest := []) C hA hR mf_X8_laidWithout lk_L_211 rfl ⟨rfl, rfl⟩ (by decide) ⟨rfl, rfl⟩ ⟨Nat.le_of_ble_eq_true rfl, Nat.le_of_ble_eq_true rfl⟩ rfl rfl (Nat.le_of_ble_eq_true rfl) (lq0 hce) dL_law_1262 hq (fun _ _ h => c_X8_laidWithout g.l g.G rfl h) (fun rm1 wm1 _ hq => ?_)
  refine x_aload_n C 2 dL_law_1265 rfl ?_
  refine q_mI (rm := rmv 9 213 0 0) (K := 10) (o := 50) (As := []) (rest := [iV rm1]) C hA hR mf_X9_laidWithout lk_L_214 rfl ⟨rfl, rfl⟩ (by decide) ⟨rfl, rfl⟩ ⟨Nat.le_of_ble_eq_true rfl, Nat.le_of_ble_eq_true rfl⟩ rfl rfl (Nat.le_of_ble_eq_true rfl) (lq0 hce) dL_law_1266 hq (fun _ _ h => c_X9_laidWithout g.l g.G rfl h) (fun rm2 wm2 _ hq => ?_)
  refine x_icmp_eq (tgt := 2560) C dL_law_1269 (by decide) hq (fun hq => ?_) (fun hq => ?_)
  · exact K d _ _ (AG.rf _) (Nat.le_add_right _ _) (Nat.le_add_right _ _) hq
  · exact nomatch hq
theorem L_op_24 {g : Cx} {ret9 : Option FieldType} (C : CX g cL_law 9 ret9 RL) (hfl : g.l.stackTraces = false) (hA : ∀ q : Nat, g.s.heap.size ≤ q → g.A q) (hR : g.R = room_1) (hNC : NC3 g.s) {b L : Nat} {xs : Nat → Int32} (hX : va_X b L xs g.s g.s.heap) (hb : b < g.s.heap.size) (hbA : ¬ g.A b) (hL : L ≤ 3072) {i : Int} (hi : 0 ≤ i ∧ i + 5 < L) {d : Dl} {adM : Nat → Nat} {wC wM : Wd} (hce : d.ce + 15 ≤ MCL ∧ d.so + 852 ≤ MSL) {res : Nat × Wd × Wd} (hq : p_op_24 xs i d.na wC wM = some res)
    (K : ∀ (d1 : Dl) (w1 w2 : Wd), AG d.na d.ad d1 → d1.ce ≤ d.ce + 15 → d1.so ≤ d.so + 852 → some (d1.na, w1, w2) = some res → XG g d1 (hQ g d1 adM w1 w2) [(0, .ref b), (1, .ref (d1.ad 1)), (2, .ref (adM 50)), (3, .ref (d1.ad 34)), (4, iV i)] [] 2560) :
    XG g d (hQ g d adM wC wM) [(0, .ref b), (1, .ref (d.ad 1)), (2, .ref (adM 50)), (3, .ref (d.ad 34)), (4, iV i)] [] 1274 := by
  unfold p_op_24 at hq
  refine x_aload_n C 1 dL_law_1274 rfl ?_
  refine x_aload_n C 0 dL_law_1275 rfl ?_
  refine x_iload C 4 dL_law_1276 rfl ?_
  refine x_iconst C dL_law_1278 ?_
  refine x_iadd C dL_law_1279 ?_
  refine q_sld C hX hb hbA ⟨by omega, by omega⟩ hL dL_law_1280 ?_
  refine x_aload_n C 3 dL_law_1281 rfl ?_
  refine q_wr (mc' := 1) (ms' := 6) (rm := rmv 8 140 1 6) (As := [.ref (d.ad 1), iV (sc xs (i + 1)), .ref (d.ad 34)]) (rest := []) C hA hR hNC mfL_laidWith lk_L_215 ⟨rfl, rfl⟩ ⟨Nat.le_of_ble_eq_true rfl, Nat.le_of_ble_eq_true rfl⟩ rfl rfl (Nat.le_of_ble_eq_true rfl) (lq hce (by decide) (by decide)) dL_law_1282 hq (fun _ h => c_L_laidWith g.l g.G hfl h) (fun z1 d2 _ hq agd2 hn hc1 hc2 => ?_)
  have e1 := agq1 agd2; have e3 := agq3 agd2; rw [e1, e3]; rw [← hn] at hq
  refine x_istore C dL_law_1285 (by decide) rfl ?_
  refine x_aload_n C 3 dL_law_1287 rfl ?_
  refine x_aload_n C 1 dL_law_1288 rfl ?_
  refine x_iload C 5 dL_law_1289 rfl ?_
  refine x_iconst C dL_law_1291 ?_
  refine x_iadd C dL_law_1292 ?_
  refine q_sld C hX hb hbA ⟨by omega, by omega⟩ hL dL_law_1293 ?_
  refine q_mI (rm := rmv 9 213 0 0) (K := 10) (o := 50) (As := [iV (sc xs (i + 1))]) (rest := []) C hA hR mf_X9_laidWith lk_L_217 rfl ⟨rfl, rfl⟩ (by decide) ⟨rfl, rfl⟩ ⟨Nat.le_of_ble_eq_true rfl, Nat.le_of_ble_eq_true rfl⟩ rfl rfl (Nat.le_of_ble_eq_true rfl) (lq1 hce hc1 hc2 (by decide) (by decide)) dL_law_1294 hq (fun _ _ h => c_X9_laidWith g.l g.G rfl h) (fun rm3 wm3 _ hq => ?_)
  refine x_istore C dL_law_1297 (by decide) rfl ?_
  refine x_aload_n C 4 dL_law_1299 rfl ?_
  refine q_mI (rm := rmv 0 0 0 0) (K := 10) (o := 50) (As := []) (rest := []) C hA hR mf_X9_thrown lk_L_130 rfl ⟨rfl, rfl⟩ (by decide) ⟨rfl, rfl⟩ ⟨Nat.le_of_ble_eq_true rfl, Nat.le_of_ble_eq_true rfl⟩ rfl rfl (Nat.le_of_ble_eq_true rfl) (lq1 hce hc1 hc2 (by decide) (by decide)) dL_law_1300 hq (fun _ _ h => c_X9_thrown g.l g.G rfl h) (fun rm4 wm4 _ hq => ?_)
  refine x_iload C 1 dL_law_1303 rfl ?_
  refine x_icmp_eq (tgt := 1310) C dL_law_1305 (by decide) hq (fun hq => ?_) (fun hq => ?_)
  · refine x_iload C 1 dL_law_1310 rfl ?_
    refine x_if_ne (tgt := 1327) C dL_law_1312 (by decide) hq (fun hq => ?_) (fun hq => ?_)
    · refine x_goto (tgt := 2560) C dL_law_1327 (by decide) ?_
      refine XG.sub [2, 3, 4, 5, 6] rfl ?_
      exact K d2 _ _ (agd2) (lc hc1 (by decide)) (lc hc2 (by decide)) hq
    · refine x_aload_n C 5 dL_law_1315 rfl ?_
      refine x_iconst C dL_law_1316 ?_
      refine q_lald C (by decide) dL_law_1317 ?_
      refine x_iload C 0 dL_law_1318 rfl ?_
      refine x_i2l C dL_law_1320 ?_
      refine x_lcmp C dL_law_1321 ?_
      refine x_if_eq (tgt := 1327) C dL_law_1322 (by decide) hq (fun hq => ?_) (fun hq => ?_)
      · refine x_goto (tgt := 2560) C dL_law_1327 (by decide) ?_
        refine XG.sub [2, 3, 4, 5, 6] rfl ?_
        exact K d2 _ _ (agd2) (lc hc1 (by decide)) (lc hc2 (by decide)) hq
      · exact nomatch hq
  · exact nomatch hq
theorem L_op_25 {g : Cx} {ret9 : Option FieldType} (C : CX g cL_law 9 ret9 RL) (hfl : g.l.stackTraces = false) (hA : ∀ q : Nat, g.s.heap.size ≤ q → g.A q) (hR : g.R = room_1) (hNC : NC3 g.s) {b L : Nat} {xs : Nat → Int32} (hX : va_X b L xs g.s g.s.heap) (hb : b < g.s.heap.size) (hbA : ¬ g.A b) (hL : L ≤ 3072) {i : Int} (hi : 0 ≤ i ∧ i + 5 < L) {d : Dl} {adM : Nat → Nat} {wC wM : Wd} (hce : d.ce + 15 ≤ MCL ∧ d.so + 852 ≤ MSL) {res : Nat × Wd × Wd} (hq : p_op_25 xs i d.na wC wM = some res)
    (K : ∀ (d1 : Dl) (w1 w2 : Wd), AG d.na d.ad d1 → d1.ce ≤ d.ce + 15 → d1.so ≤ d.so + 852 → some (d1.na, w1, w2) = some res → XG g d1 (hQ g d1 adM w1 w2) [(0, .ref b), (1, .ref (d1.ad 1)), (2, .ref (adM 50)), (3, .ref (d1.ad 34)), (4, iV i)] [] 2560) :
    XG g d (hQ g d adM wC wM) [(0, .ref b), (1, .ref (d.ad 1)), (2, .ref (adM 50)), (3, .ref (d.ad 34)), (4, iV i)] [] 1330 := by
  unfold p_op_25 at hq
  refine x_aload_n C 1 dL_law_1330 rfl ?_
  refine q_cI (rm := rmv 5 119 0 0) (K := 9) (o := 1) (As := []) (rest := []) C hA hR mf_X8_laidTurned lk_L_218 rfl ⟨rfl, rfl⟩ (by decide) ⟨rfl, rfl⟩ ⟨Nat.le_of_ble_eq_true rfl, Nat.le_of_ble_eq_true rfl⟩ rfl rfl (Nat.le_of_ble_eq_true rfl) (lq0 hce) dL_law_1331 hq (fun _ _ h => c_X8_laidTurned g.l g.G rfl h) (fun rm1 wm1 _ hq => ?_)
  refine x_aload_n C 2 dL_law_1334 rfl ?_
  refine q_mI (rm := rmv 9 213 0 0) (K := 10) (o := 50) (As := []) (rest := [iV rm1]) C hA hR mf_X9_laidTurned lk_L_221 rfl ⟨rfl, rfl⟩ (by decide) ⟨rfl, rfl⟩ ⟨Nat.le_of_ble_eq_true rfl, Nat.le_of_ble_eq_true rfl⟩ rfl rfl (Nat.le_of_ble_eq_true rfl) (lq0 hce) dL_law_1335 hq (fun _ _ h => c_X9_laidTurned g.l g.G rfl h) (fun rm2 wm2 _ hq => ?_)
  refine x_icmp_eq (tgt := 2560) C dL_law_1338 (by decide) hq (fun hq => ?_) (fun hq => ?_)
  · exact K d _ _ (AG.rf _) (Nat.le_add_right _ _) (Nat.le_add_right _ _) hq
  · exact nomatch hq
theorem L_op_26 {g : Cx} {ret9 : Option FieldType} (C : CX g cL_law 9 ret9 RL) (hfl : g.l.stackTraces = false) (hA : ∀ q : Nat, g.s.heap.size ≤ q → g.A q) (hR : g.R = room_1) (hNC : NC3 g.s) {b L : Nat} {xs : Nat → Int32} (hX : va_X b L xs g.s g.s.heap) (hb : b < g.s.heap.size) (hbA : ¬ g.A b) (hL : L ≤ 3072) {i : Int} (hi : 0 ≤ i ∧ i + 5 < L) {d : Dl} {adM : Nat → Nat} {wC wM : Wd} (hce : d.ce + 15 ≤ MCL ∧ d.so + 852 ≤ MSL) {res : Nat × Wd × Wd} (hq : p_op_26 xs i d.na wC wM = some res)
    (K : ∀ (d1 : Dl) (w1 w2 : Wd), AG d.na d.ad d1 → d1.ce ≤ d.ce + 15 → d1.so ≤ d.so + 852 → some (d1.na, w1, w2) = some res → XG g d1 (hQ g d1 adM w1 w2) [(0, .ref b), (1, .ref (d1.ad 1)), (2, .ref (adM 50)), (3, .ref (d1.ad 34)), (4, iV i)] [] 2560) :
    XG g d (hQ g d adM wC wM) [(0, .ref b), (1, .ref (d.ad 1)), (2, .ref (adM 50)), (3, .ref (d.ad 34)), (4, iV i)] [] 1343 := by
  unfold p_op_26 at hq
  refine x_aload_n C 1 dL_law_1343 rfl ?_
  refine q_cI (rm := rmv 1 21 0 0) (K := 9) (o := 1) (As := []) (rest := []) C hA hR mf_X8_leastRows lk_L_222 rfl ⟨rfl, rfl⟩ (by decide) ⟨rfl, rfl⟩ ⟨Nat.le_of_ble_eq_true rfl, Nat.le_of_ble_eq_true rfl⟩ rfl rfl (Nat.le_of_ble_eq_true rfl) (lq0 hce) dL_law_1344 hq (fun _ _ h => c_X8_leastRows g.l g.G rfl h) (fun rm1 wm1 _ hq => ?_)
  refine x_aload_n C 2 dL_law_1347 rfl ?_
  refine q_mI (rm := rmv 9 213 0 0) (K := 10) (o := 50) (As := []) (rest := [iV rm1]) C hA hR mf_X9_leastRows lk_L_225 rfl ⟨rfl, rfl⟩ (by decide) ⟨rfl, rfl⟩ ⟨Nat.le_of_ble_eq_true rfl, Nat.le_of_ble_eq_true rfl⟩ rfl rfl (Nat.le_of_ble_eq_true rfl) (lq0 hce) dL_law_1348 hq (fun _ _ h => c_X9_leastRows g.l g.G rfl h) (fun rm2 wm2 _ hq => ?_)
  refine x_icmp_eq (tgt := 2560) C dL_law_1351 (by decide) hq (fun hq => ?_) (fun hq => ?_)
  · exact K d _ _ (AG.rf _) (Nat.le_add_right _ _) (Nat.le_add_right _ _) hq
  · exact nomatch hq
theorem L_op_27 {g : Cx} {ret9 : Option FieldType} (C : CX g cL_law 9 ret9 RL) (hfl : g.l.stackTraces = false) (hA : ∀ q : Nat, g.s.heap.size ≤ q → g.A q) (hR : g.R = room_1) (hNC : NC3 g.s) {b L : Nat} {xs : Nat → Int32} (hX : va_X b L xs g.s g.s.heap) (hb : b < g.s.heap.size) (hbA : ¬ g.A b) (hL : L ≤ 3072) {i : Int} (hi : 0 ≤ i ∧ i + 5 < L) {d : Dl} {adM : Nat → Nat} {wC wM : Wd} (hce : d.ce + 15 ≤ MCL ∧ d.so + 852 ≤ MSL) {res : Nat × Wd × Wd} (hq : p_op_27 xs i d.na wC wM = some res)
    (K : ∀ (d1 : Dl) (w1 w2 : Wd), AG d.na d.ad d1 → d1.ce ≤ d.ce + 15 → d1.so ≤ d.so + 852 → some (d1.na, w1, w2) = some res → XG g d1 (hQ g d1 adM w1 w2) [(0, .ref b), (1, .ref (d1.ad 1)), (2, .ref (adM 50)), (3, .ref (d1.ad 34)), (4, iV i)] [] 2560) :
    XG g d (hQ g d adM wC wM) [(0, .ref b), (1, .ref (d.ad 1)), (2, .ref (adM 50)), (3, .ref (d.ad 34)), (4, iV i)] [] 1356 := by
  unfold p_op_27 at hq
  refine x_aload_n C 1 dL_law_1356 rfl ?_
  refine x_aload_n C 0 dL_law_1357 rfl ?_
  refine x_iload C 4 dL_law_1358 rfl ?_
  refine x_iconst C dL_law_1360 ?_
  refine x_iadd C dL_law_1361 ?_
  refine q_sld C hX hb hbA ⟨by omega, by omega⟩ hL dL_law_1362 ?_
  refine x_aload_n C 3 dL_law_1363 rfl ?_
  refine q_wr (mc' := 1) (ms' := 6) (rm := rmv 8 140 1 6) (As := [.ref (d.ad 1), iV (sc xs (i + 1)), .ref (d.ad 34)]) (rest := []) C hA hR hNC mfL_laidBut lk_L_226 ⟨rfl, rfl⟩ ⟨Nat.le_of_ble_eq_true rfl, Nat.le_of_ble_eq_true rfl⟩ rfl rfl (Nat.le_of_ble_eq_true rfl) (lq hce (by decide) (by decide)) dL_law_1364 hq (fun _ h => c_L_laidBut g.l g.G hfl h) (fun z1 d2 _ hq agd2 hn hc1 hc2 => ?_)
  have e1 := agq1 agd2; have e3 := agq3 agd2; rw [e1, e3]; rw [← hn] at hq
  refine x_istore C dL_law_1367 (by decide) rfl ?_
  refine x_aload_n C 3 dL_law_1369 rfl ?_
  refine x_aload_n C 1 dL_law_1370 rfl ?_
  refine x_iload C 5 dL_law_1371 rfl ?_
  refine x_iconst C dL_law_1373 ?_
  refine x_iadd C dL_law_1374 ?_
  refine q_sld C hX hb hbA ⟨by omega, by omega⟩ hL dL_law_1375 ?_
  refine q_mI (rm := rmv 9 213 0 0) (K := 10) (o := 50) (As := [iV (sc xs (i + 1))]) (rest := []) C hA hR mf_X9_laidBut lk_L_228 rfl ⟨rfl, rfl⟩ (by decide) ⟨rfl, rfl⟩ ⟨Nat.le_of_ble_eq_true rfl, Nat.le_of_ble_eq_true rfl⟩ rfl rfl (Nat.le_of_ble_eq_true rfl) (lq1 hce hc1 hc2 (by decide) (by decide)) dL_law_1376 hq (fun _ _ h => c_X9_laidBut g.l g.G rfl h) (fun rm3 wm3 _ hq => ?_)
  refine x_istore C dL_law_1379 (by decide) rfl ?_
  refine x_aload_n C 4 dL_law_1381 rfl ?_
  refine q_mI (rm := rmv 0 0 0 0) (K := 10) (o := 50) (As := []) (rest := []) C hA hR mf_X9_thrown lk_L_130 rfl ⟨rfl, rfl⟩ (by decide) ⟨rfl, rfl⟩ ⟨Nat.le_of_ble_eq_true rfl, Nat.le_of_ble_eq_true rfl⟩ rfl rfl (Nat.le_of_ble_eq_true rfl) (lq1 hce hc1 hc2 (by decide) (by decide)) dL_law_1382 hq (fun _ _ h => c_X9_thrown g.l g.G rfl h) (fun rm4 wm4 _ hq => ?_)
  refine x_iload C 1 dL_law_1385 rfl ?_
  refine x_icmp_eq (tgt := 1392) C dL_law_1387 (by decide) hq (fun hq => ?_) (fun hq => ?_)
  · refine x_iload C 1 dL_law_1392 rfl ?_
    refine x_if_ne (tgt := 1409) C dL_law_1394 (by decide) hq (fun hq => ?_) (fun hq => ?_)
    · refine x_goto (tgt := 2560) C dL_law_1409 (by decide) ?_
      refine XG.sub [2, 3, 4, 5, 6] rfl ?_
      exact K d2 _ _ (agd2) (lc hc1 (by decide)) (lc hc2 (by decide)) hq
    · refine x_aload_n C 5 dL_law_1397 rfl ?_
      refine x_iconst C dL_law_1398 ?_
      refine q_lald C (by decide) dL_law_1399 ?_
      refine x_iload C 0 dL_law_1400 rfl ?_
      refine x_i2l C dL_law_1402 ?_
      refine x_lcmp C dL_law_1403 ?_
      refine x_if_eq (tgt := 1409) C dL_law_1404 (by decide) hq (fun hq => ?_) (fun hq => ?_)
      · refine x_goto (tgt := 2560) C dL_law_1409 (by decide) ?_
        refine XG.sub [2, 3, 4, 5, 6] rfl ?_
        exact K d2 _ _ (agd2) (lc hc1 (by decide)) (lc hc2 (by decide)) hq
      · exact nomatch hq
  · exact nomatch hq
theorem L_op_28 {g : Cx} {ret9 : Option FieldType} (C : CX g cL_law 9 ret9 RL) (hfl : g.l.stackTraces = false) (hA : ∀ q : Nat, g.s.heap.size ≤ q → g.A q) (hR : g.R = room_1) (hNC : NC3 g.s) {b L : Nat} {xs : Nat → Int32} (hX : va_X b L xs g.s g.s.heap) (hb : b < g.s.heap.size) (hbA : ¬ g.A b) (hL : L ≤ 3072) {i : Int} (hi : 0 ≤ i ∧ i + 5 < L) {d : Dl} {adM : Nat → Nat} {wC wM : Wd} (hce : d.ce + 15 ≤ MCL ∧ d.so + 852 ≤ MSL) {res : Nat × Wd × Wd} (hq : p_op_28 xs i d.na wC wM = some res)
    (K : ∀ (d1 : Dl) (w1 w2 : Wd), AG d.na d.ad d1 → d1.ce ≤ d.ce + 15 → d1.so ≤ d.so + 852 → some (d1.na, w1, w2) = some res → XG g d1 (hQ g d1 adM w1 w2) [(0, .ref b), (1, .ref (d1.ad 1)), (2, .ref (adM 50)), (3, .ref (d1.ad 34)), (4, iV i)] [] 2560) :
    XG g d (hQ g d adM wC wM) [(0, .ref b), (1, .ref (d.ad 1)), (2, .ref (adM 50)), (3, .ref (d.ad 34)), (4, iV i)] [] 1412 := by
  unfold p_op_28 at hq
  refine x_aload_n C 1 dL_law_1412 rfl ?_
  refine x_aload_n C 0 dL_law_1413 rfl ?_
  refine x_iload C 4 dL_law_1414 rfl ?_
  refine x_iconst C dL_law_1416 ?_
  refine x_iadd C dL_law_1417 ?_
  refine q_sld C hX hb hbA ⟨by omega, by omega⟩ hL dL_law_1418 ?_
  refine x_aload_n C 3 dL_law_1419 rfl ?_
  refine q_wr (mc' := 1) (ms' := 6) (rm := rmv 8 144 1 6) (As := [.ref (d.ad 1), iV (sc xs (i + 1)), .ref (d.ad 34)]) (rest := []) C hA hR hNC mfL_bestPlace lk_L_229 ⟨rfl, rfl⟩ ⟨Nat.le_of_ble_eq_true rfl, Nat.le_of_ble_eq_true rfl⟩ rfl rfl (Nat.le_of_ble_eq_true rfl) (lq hce (by decide) (by decide)) dL_law_1420 hq (fun _ h => c_L_bestPlace g.l g.G hfl h) (fun z1 d2 _ hq agd2 hn hc1 hc2 => ?_)
  have e1 := agq1 agd2; have e3 := agq3 agd2; rw [e1, e3]; rw [← hn] at hq
  refine x_istore C dL_law_1423 (by decide) rfl ?_
  refine x_aload_n C 3 dL_law_1425 rfl ?_
  refine x_aload_n C 1 dL_law_1426 rfl ?_
  refine x_iload C 5 dL_law_1427 rfl ?_
  refine x_iconst C dL_law_1429 ?_
  refine x_iadd C dL_law_1430 ?_
  refine q_sld C hX hb hbA ⟨by omega, by omega⟩ hL dL_law_1431 ?_
  refine q_mI (rm := rmv 9 213 0 0) (K := 10) (o := 50) (As := [iV (sc xs (i + 1))]) (rest := []) C hA hR mf_X9_bestPlace lk_L_231 rfl ⟨rfl, rfl⟩ (by decide) ⟨rfl, rfl⟩ ⟨Nat.le_of_ble_eq_true rfl, Nat.le_of_ble_eq_true rfl⟩ rfl rfl (Nat.le_of_ble_eq_true rfl) (lq1 hce hc1 hc2 (by decide) (by decide)) dL_law_1432 hq (fun _ _ h => c_X9_bestPlace g.l g.G rfl h) (fun rm3 wm3 _ hq => ?_)
  refine x_istore C dL_law_1435 (by decide) rfl ?_
  refine x_aload_n C 4 dL_law_1437 rfl ?_
  refine q_mI (rm := rmv 0 0 0 0) (K := 10) (o := 50) (As := []) (rest := []) C hA hR mf_X9_thrown lk_L_130 rfl ⟨rfl, rfl⟩ (by decide) ⟨rfl, rfl⟩ ⟨Nat.le_of_ble_eq_true rfl, Nat.le_of_ble_eq_true rfl⟩ rfl rfl (Nat.le_of_ble_eq_true rfl) (lq1 hce hc1 hc2 (by decide) (by decide)) dL_law_1438 hq (fun _ _ h => c_X9_thrown g.l g.G rfl h) (fun rm4 wm4 _ hq => ?_)
  refine x_iload C 1 dL_law_1441 rfl ?_
  refine x_icmp_eq (tgt := 1448) C dL_law_1443 (by decide) hq (fun hq => ?_) (fun hq => ?_)
  · refine x_iload C 1 dL_law_1448 rfl ?_
    refine x_if_ne (tgt := 1465) C dL_law_1450 (by decide) hq (fun hq => ?_) (fun hq => ?_)
    · refine x_goto (tgt := 2560) C dL_law_1465 (by decide) ?_
      refine XG.sub [2, 3, 4, 5, 6] rfl ?_
      exact K d2 _ _ (agd2) (lc hc1 (by decide)) (lc hc2 (by decide)) hq
    · refine x_aload_n C 5 dL_law_1453 rfl ?_
      refine x_iconst C dL_law_1454 ?_
      refine q_lald C (by decide) dL_law_1455 ?_
      refine x_iload C 0 dL_law_1456 rfl ?_
      refine x_i2l C dL_law_1458 ?_
      refine x_lcmp C dL_law_1459 ?_
      refine x_if_eq (tgt := 1465) C dL_law_1460 (by decide) hq (fun hq => ?_) (fun hq => ?_)
      · refine x_goto (tgt := 2560) C dL_law_1465 (by decide) ?_
        refine XG.sub [2, 3, 4, 5, 6] rfl ?_
        exact K d2 _ _ (agd2) (lc hc1 (by decide)) (lc hc2 (by decide)) hq
      · exact nomatch hq
  · exact nomatch hq
theorem L_op_29 {g : Cx} {ret9 : Option FieldType} (C : CX g cL_law 9 ret9 RL) (hfl : g.l.stackTraces = false) (hA : ∀ q : Nat, g.s.heap.size ≤ q → g.A q) (hR : g.R = room_1) (hNC : NC3 g.s) {b L : Nat} {xs : Nat → Int32} (hX : va_X b L xs g.s g.s.heap) (hb : b < g.s.heap.size) (hbA : ¬ g.A b) (hL : L ≤ 3072) {i : Int} (hi : 0 ≤ i ∧ i + 5 < L) {d : Dl} {adM : Nat → Nat} {wC wM : Wd} (hce : d.ce + 15 ≤ MCL ∧ d.so + 852 ≤ MSL) {res : Nat × Wd × Wd} (hq : p_op_29 xs i d.na wC wM = some res)
    (K : ∀ (d1 : Dl) (w1 w2 : Wd), AG d.na d.ad d1 → d1.ce ≤ d.ce + 15 → d1.so ≤ d.so + 852 → some (d1.na, w1, w2) = some res → XG g d1 (hQ g d1 adM w1 w2) [(0, .ref b), (1, .ref (d1.ad 1)), (2, .ref (adM 50)), (3, .ref (d1.ad 34)), (4, iV i)] [] 2560) :
    XG g d (hQ g d adM wC wM) [(0, .ref b), (1, .ref (d.ad 1)), (2, .ref (adM 50)), (3, .ref (d.ad 34)), (4, iV i)] [] 1468 := by
  unfold p_op_29 at hq
  refine x_aload_n C 1 dL_law_1468 rfl ?_
  refine q_cI (rm := rmv 3 69 0 0) (K := 9) (o := 1) (As := []) (rest := []) C hA hR mf_X8_touching lk_L_232 rfl ⟨rfl, rfl⟩ (by decide) ⟨rfl, rfl⟩ ⟨Nat.le_of_ble_eq_true rfl, Nat.le_of_ble_eq_true rfl⟩ rfl rfl (Nat.le_of_ble_eq_true rfl) (lq0 hce) dL_law_1469 hq (fun _ _ h => c_X8_touching g.l g.G rfl h) (fun rm1 wm1 _ hq => ?_)
  refine x_aload_n C 2 dL_law_1472 rfl ?_
  refine q_mI (rm := rmv 9 213 0 0) (K := 10) (o := 50) (As := []) (rest := [iV rm1]) C hA hR mf_X9_touching lk_L_235 rfl ⟨rfl, rfl⟩ (by decide) ⟨rfl, rfl⟩ ⟨Nat.le_of_ble_eq_true rfl, Nat.le_of_ble_eq_true rfl⟩ rfl rfl (Nat.le_of_ble_eq_true rfl) (lq0 hce) dL_law_1473 hq (fun _ _ h => c_X9_touching g.l g.G rfl h) (fun rm2 wm2 _ hq => ?_)
  refine x_icmp_eq (tgt := 2560) C dL_law_1476 (by decide) hq (fun hq => ?_) (fun hq => ?_)
  · exact K d _ _ (AG.rf _) (Nat.le_add_right _ _) (Nat.le_add_right _ _) hq
  · exact nomatch hq
theorem L_op_30 {g : Cx} {ret9 : Option FieldType} (C : CX g cL_law 9 ret9 RL) (hfl : g.l.stackTraces = false) (hA : ∀ q : Nat, g.s.heap.size ≤ q → g.A q) (hR : g.R = room_1) (hNC : NC3 g.s) {b L : Nat} {xs : Nat → Int32} (hX : va_X b L xs g.s g.s.heap) (hb : b < g.s.heap.size) (hbA : ¬ g.A b) (hL : L ≤ 3072) {i : Int} (hi : 0 ≤ i ∧ i + 5 < L) {d : Dl} {adM : Nat → Nat} {wC wM : Wd} (hce : d.ce + 15 ≤ MCL ∧ d.so + 852 ≤ MSL) {res : Nat × Wd × Wd} (hq : p_op_30 xs i d.na wC wM = some res)
    (K : ∀ (d1 : Dl) (w1 w2 : Wd), AG d.na d.ad d1 → d1.ce ≤ d.ce + 15 → d1.so ≤ d.so + 852 → some (d1.na, w1, w2) = some res → XG g d1 (hQ g d1 adM w1 w2) [(0, .ref b), (1, .ref (d1.ad 1)), (2, .ref (adM 50)), (3, .ref (d1.ad 34)), (4, iV i)] [] 2560) :
    XG g d (hQ g d adM wC wM) [(0, .ref b), (1, .ref (d.ad 1)), (2, .ref (adM 50)), (3, .ref (d.ad 34)), (4, iV i)] [] 1481 := by
  unfold p_op_30 at hq
  refine x_aload_n C 1 dL_law_1481 rfl ?_
  refine q_cI (rm := rmv 2 45 0 0) (K := 9) (o := 1) (As := []) (rest := []) C hA hR mf_X8_dear lk_L_236 rfl ⟨rfl, rfl⟩ (by decide) ⟨rfl, rfl⟩ ⟨Nat.le_of_ble_eq_true rfl, Nat.le_of_ble_eq_true rfl⟩ rfl rfl (Nat.le_of_ble_eq_true rfl) (lq0 hce) dL_law_1482 hq (fun _ _ h => c_X8_dear g.l g.G rfl h) (fun rm1 wm1 _ hq => ?_)
  refine x_aload_n C 2 dL_law_1485 rfl ?_
  refine q_mI (rm := rmv 9 213 0 0) (K := 10) (o := 50) (As := []) (rest := [iV rm1]) C hA hR mf_X9_dear lk_L_239 rfl ⟨rfl, rfl⟩ (by decide) ⟨rfl, rfl⟩ ⟨Nat.le_of_ble_eq_true rfl, Nat.le_of_ble_eq_true rfl⟩ rfl rfl (Nat.le_of_ble_eq_true rfl) (lq0 hce) dL_law_1486 hq (fun _ _ h => c_X9_dear g.l g.G rfl h) (fun rm2 wm2 _ hq => ?_)
  refine x_icmp_eq (tgt := 2560) C dL_law_1489 (by decide) hq (fun hq => ?_) (fun hq => ?_)
  · exact K d _ _ (AG.rf _) (Nat.le_add_right _ _) (Nat.le_add_right _ _) hq
  · exact nomatch hq
theorem L_op_31 {g : Cx} {ret9 : Option FieldType} (C : CX g cL_law 9 ret9 RL) (hfl : g.l.stackTraces = false) (hA : ∀ q : Nat, g.s.heap.size ≤ q → g.A q) (hR : g.R = room_1) (hNC : NC3 g.s) {b L : Nat} {xs : Nat → Int32} (hX : va_X b L xs g.s g.s.heap) (hb : b < g.s.heap.size) (hbA : ¬ g.A b) (hL : L ≤ 3072) {i : Int} (hi : 0 ≤ i ∧ i + 5 < L) {d : Dl} {adM : Nat → Nat} {wC wM : Wd} (hce : d.ce + 15 ≤ MCL ∧ d.so + 852 ≤ MSL) {res : Nat × Wd × Wd} (hq : p_op_31 xs i d.na wC wM = some res)
    (K : ∀ (d1 : Dl) (w1 w2 : Wd), AG d.na d.ad d1 → d1.ce ≤ d.ce + 15 → d1.so ≤ d.so + 852 → some (d1.na, w1, w2) = some res → XG g d1 (hQ g d1 adM w1 w2) [(0, .ref b), (1, .ref (d1.ad 1)), (2, .ref (adM 50)), (3, .ref (d1.ad 34)), (4, iV i)] [] 2560) :
    XG g d (hQ g d adM wC wM) [(0, .ref b), (1, .ref (d.ad 1)), (2, .ref (adM 50)), (3, .ref (d.ad 34)), (4, iV i)] [] 1494 := by
  unfold p_op_31 at hq
  refine x_aload_n C 1 dL_law_1494 rfl ?_
  refine q_cF (rm := rmv 0 0 0 0) (K := 9) (o := 1) (As := []) (rest := []) C hA hR mf_X8_carvedShare lk_L_240 rfl ⟨rfl, rfl⟩ (by decide) ⟨rfl, rfl⟩ ⟨Nat.le_of_ble_eq_true rfl, Nat.le_of_ble_eq_true rfl⟩ rfl rfl (Nat.le_of_ble_eq_true rfl) (lq0 hce) dL_law_1495 hq (fun _ _ h => c_X8_carvedShare g.l g.G rfl h) (fun rm1 wm1 _ hq => ?_)
  refine x_f2d C dL_law_1498 hq (fun v2 hq => ?_)
  refine x_dstore C dL_law_1499 (by decide) rfl ?_
  refine x_aload_n C 3 dL_law_1501 rfl ?_
  refine q_mF (rm := rmv 9 213 0 0) (K := 10) (o := 50) (As := []) (rest := []) C hA hR mf_X9_carvedShare lk_L_244 rfl ⟨rfl, rfl⟩ (by decide) ⟨rfl, rfl⟩ ⟨Nat.le_of_ble_eq_true rfl, Nat.le_of_ble_eq_true rfl⟩ rfl rfl (Nat.le_of_ble_eq_true rfl) (lq0 hce) dL_law_1502 hq (fun _ _ h => c_X9_carvedShare g.l g.G rfl h) (fun rm3 wm3 _ hq => ?_)
  refine x_f2d C dL_law_1505 hq (fun v4 hq => ?_)
  refine x_dstore C dL_law_1506 (by decide) rfl ?_
  refine x_dload C 1 dL_law_1508 rfl ?_
  refine x_dload C 0 dL_law_1510 rfl ?_
  refine x_dcmpl C dL_law_1512 ?_
  refine x_if_eq (tgt := 1534) C dL_law_1513 (by decide) hq (fun hq => ?_) (fun hq => ?_)
  · refine x_goto (tgt := 2560) C dL_law_1534 (by decide) ?_
    refine XG.sub [2, 3, 4, 5, 6] rfl ?_
    exact K d _ _ (AG.rf _) (Nat.le_add_right _ _) (Nat.le_add_right _ _) hq
  · refine x_dload C 1 dL_law_1516 rfl ?_
    refine x_dload C 1 dL_law_1518 rfl ?_
    refine x_dcmpl C dL_law_1520 ?_
    refine x_if_eq (tgt := 1532) C dL_law_1521 (by decide) hq (fun hq => ?_) (fun hq => ?_)
    · exact nomatch hq
    · refine x_dload C 0 dL_law_1524 rfl ?_
      refine x_dload C 0 dL_law_1526 rfl ?_
      refine x_dcmpl C dL_law_1528 ?_
      refine x_if_ne (tgt := 1534) C dL_law_1529 (by decide) hq (fun hq => ?_) (fun hq => ?_)
      · refine x_goto (tgt := 2560) C dL_law_1534 (by decide) ?_
        refine XG.sub [2, 3, 4, 5, 6] rfl ?_
        exact K d _ _ (AG.rf _) (Nat.le_add_right _ _) (Nat.le_add_right _ _) hq
      · exact nomatch hq
theorem L_op_32 {g : Cx} {ret9 : Option FieldType} (C : CX g cL_law 9 ret9 RL) (hfl : g.l.stackTraces = false) (hA : ∀ q : Nat, g.s.heap.size ≤ q → g.A q) (hR : g.R = room_1) (hNC : NC3 g.s) {b L : Nat} {xs : Nat → Int32} (hX : va_X b L xs g.s g.s.heap) (hb : b < g.s.heap.size) (hbA : ¬ g.A b) (hL : L ≤ 3072) {i : Int} (hi : 0 ≤ i ∧ i + 5 < L) {d : Dl} {adM : Nat → Nat} {wC wM : Wd} (hce : d.ce + 15 ≤ MCL ∧ d.so + 852 ≤ MSL) {res : Nat × Wd × Wd} (hq : p_op_32 xs i d.na wC wM = some res)
    (K : ∀ (d1 : Dl) (w1 w2 : Wd), AG d.na d.ad d1 → d1.ce ≤ d.ce + 15 → d1.so ≤ d.so + 852 → some (d1.na, w1, w2) = some res → XG g d1 (hQ g d1 adM w1 w2) [(0, .ref b), (1, .ref (d1.ad 1)), (2, .ref (adM 50)), (3, .ref (d1.ad 34)), (4, iV i)] [] 2560) :
    XG g d (hQ g d adM wC wM) [(0, .ref b), (1, .ref (d.ad 1)), (2, .ref (adM 50)), (3, .ref (d.ad 34)), (4, iV i)] [] 1537 := by
  unfold p_op_32 at hq
  refine x_aload_n C 1 dL_law_1537 rfl ?_
  refine q_cD (rm := rmv 2 45 0 0) (K := 9) (o := 1) (As := []) (rest := []) C hA hR mf_X8_meanStrokes lk_L_245 rfl ⟨rfl, rfl⟩ (by decide) ⟨rfl, rfl⟩ ⟨Nat.le_of_ble_eq_true rfl, Nat.le_of_ble_eq_true rfl⟩ rfl rfl (Nat.le_of_ble_eq_true rfl) (lq0 hce) dL_law_1538 hq (fun _ _ h => c_X8_meanStrokes g.l g.G rfl h) (fun rm1 wm1 _ hq => ?_)
  refine x_dstore C dL_law_1541 (by decide) rfl ?_
  refine x_aload_n C 3 dL_law_1543 rfl ?_
  refine q_mD (rm := rmv 9 213 0 0) (K := 10) (o := 50) (As := []) (rest := []) C hA hR mf_X9_meanStrokes lk_L_249 rfl ⟨rfl, rfl⟩ (by decide) ⟨rfl, rfl⟩ ⟨Nat.le_of_ble_eq_true rfl, Nat.le_of_ble_eq_true rfl⟩ rfl rfl (Nat.le_of_ble_eq_true rfl) (lq0 hce) dL_law_1544 hq (fun _ _ h => c_X9_meanStrokes g.l g.G rfl h) (fun rm2 wm2 _ hq => ?_)
  refine x_dstore C dL_law_1547 (by decide) rfl ?_
  refine x_dload C 1 dL_law_1549 rfl ?_
  refine x_dload C 0 dL_law_1551 rfl ?_
  refine x_dcmpl C dL_law_1553 ?_
  refine x_if_eq (tgt := 1575) C dL_law_1554 (by decide) hq (fun hq => ?_) (fun hq => ?_)
  · refine x_goto (tgt := 2560) C dL_law_1575 (by decide) ?_
    refine XG.sub [2, 3, 4, 5, 6] rfl ?_
    exact K d _ _ (AG.rf _) (Nat.le_add_right _ _) (Nat.le_add_right _ _) hq
  · refine x_dload C 1 dL_law_1557 rfl ?_
    refine x_dload C 1 dL_law_1559 rfl ?_
    refine x_dcmpl C dL_law_1561 ?_
    refine x_if_eq (tgt := 1573) C dL_law_1562 (by decide) hq (fun hq => ?_) (fun hq => ?_)
    · exact nomatch hq
    · refine x_dload C 0 dL_law_1565 rfl ?_
      refine x_dload C 0 dL_law_1567 rfl ?_
      refine x_dcmpl C dL_law_1569 ?_
      refine x_if_ne (tgt := 1575) C dL_law_1570 (by decide) hq (fun hq => ?_) (fun hq => ?_)
      · refine x_goto (tgt := 2560) C dL_law_1575 (by decide) ?_
        refine XG.sub [2, 3, 4, 5, 6] rfl ?_
        exact K d _ _ (AG.rf _) (Nat.le_add_right _ _) (Nat.le_add_right _ _) hq
      · exact nomatch hq
theorem L_op_33 {g : Cx} {ret9 : Option FieldType} (C : CX g cL_law 9 ret9 RL) (hfl : g.l.stackTraces = false) (hA : ∀ q : Nat, g.s.heap.size ≤ q → g.A q) (hR : g.R = room_1) (hNC : NC3 g.s) {b L : Nat} {xs : Nat → Int32} (hX : va_X b L xs g.s g.s.heap) (hb : b < g.s.heap.size) (hbA : ¬ g.A b) (hL : L ≤ 3072) {i : Int} (hi : 0 ≤ i ∧ i + 5 < L) {d : Dl} {adM : Nat → Nat} {wC wM : Wd} (hce : d.ce + 15 ≤ MCL ∧ d.so + 852 ≤ MSL) {res : Nat × Wd × Wd} (hq : p_op_33 xs i d.na wC wM = some res)
    (K : ∀ (d1 : Dl) (w1 w2 : Wd), AG d.na d.ad d1 → d1.ce ≤ d.ce + 15 → d1.so ≤ d.so + 852 → some (d1.na, w1, w2) = some res → XG g d1 (hQ g d1 adM w1 w2) [(0, .ref b), (1, .ref (d1.ad 1)), (2, .ref (adM 50)), (3, .ref (d1.ad 34)), (4, iV i)] [] 2560) :
    XG g d (hQ g d adM wC wM) [(0, .ref b), (1, .ref (d.ad 1)), (2, .ref (adM 50)), (3, .ref (d.ad 34)), (4, iV i)] [] 1578 := by
  unfold p_op_33 at hq
  refine x_aload_n C 1 dL_law_1578 rfl ?_
  refine q_cD (rm := rmv 2 43 0 0) (K := 9) (o := 1) (As := []) (rest := []) C hA hR mf_X8_density lk_L_250 rfl ⟨rfl, rfl⟩ (by decide) ⟨rfl, rfl⟩ ⟨Nat.le_of_ble_eq_true rfl, Nat.le_of_ble_eq_true rfl⟩ rfl rfl (Nat.le_of_ble_eq_true rfl) (lq0 hce) dL_law_1579 hq (fun _ _ h => c_X8_density g.l g.G rfl h) (fun rm1 wm1 _ hq => ?_)
  refine x_dstore C dL_law_1582 (by decide) rfl ?_
  refine x_aload_n C 3 dL_law_1584 rfl ?_
  refine q_mD (rm := rmv 9 213 0 0) (K := 10) (o := 50) (As := []) (rest := []) C hA hR mf_X9_density lk_L_253 rfl ⟨rfl, rfl⟩ (by decide) ⟨rfl, rfl⟩ ⟨Nat.le_of_ble_eq_true rfl, Nat.le_of_ble_eq_true rfl⟩ rfl rfl (Nat.le_of_ble_eq_true rfl) (lq0 hce) dL_law_1585 hq (fun _ _ h => c_X9_density g.l g.G rfl h) (fun rm2 wm2 _ hq => ?_)
  refine x_dstore C dL_law_1588 (by decide) rfl ?_
  refine x_dload C 1 dL_law_1590 rfl ?_
  refine x_dload C 0 dL_law_1592 rfl ?_
  refine x_dcmpl C dL_law_1594 ?_
  refine x_if_eq (tgt := 1616) C dL_law_1595 (by decide) hq (fun hq => ?_) (fun hq => ?_)
  · refine x_goto (tgt := 2560) C dL_law_1616 (by decide) ?_
    refine XG.sub [2, 3, 4, 5, 6] rfl ?_
    exact K d _ _ (AG.rf _) (Nat.le_add_right _ _) (Nat.le_add_right _ _) hq
  · refine x_dload C 1 dL_law_1598 rfl ?_
    refine x_dload C 1 dL_law_1600 rfl ?_
    refine x_dcmpl C dL_law_1602 ?_
    refine x_if_eq (tgt := 1614) C dL_law_1603 (by decide) hq (fun hq => ?_) (fun hq => ?_)
    · exact nomatch hq
    · refine x_dload C 0 dL_law_1606 rfl ?_
      refine x_dload C 0 dL_law_1608 rfl ?_
      refine x_dcmpl C dL_law_1610 ?_
      refine x_if_ne (tgt := 1616) C dL_law_1611 (by decide) hq (fun hq => ?_) (fun hq => ?_)
      · refine x_goto (tgt := 2560) C dL_law_1616 (by decide) ?_
        refine XG.sub [2, 3, 4, 5, 6] rfl ?_
        exact K d _ _ (AG.rf _) (Nat.le_add_right _ _) (Nat.le_add_right _ _) hq
      · exact nomatch hq
theorem L_op_34 {g : Cx} {ret9 : Option FieldType} (C : CX g cL_law 9 ret9 RL) (hfl : g.l.stackTraces = false) (hA : ∀ q : Nat, g.s.heap.size ≤ q → g.A q) (hR : g.R = room_1) (hNC : NC3 g.s) {b L : Nat} {xs : Nat → Int32} (hX : va_X b L xs g.s g.s.heap) (hb : b < g.s.heap.size) (hbA : ¬ g.A b) (hL : L ≤ 3072) {i : Int} (hi : 0 ≤ i ∧ i + 5 < L) {d : Dl} {adM : Nat → Nat} {wC wM : Wd} (hce : d.ce + 15 ≤ MCL ∧ d.so + 852 ≤ MSL) {res : Nat × Wd × Wd} (hq : p_op_34 xs i d.na wC wM = some res)
    (K : ∀ (d1 : Dl) (w1 w2 : Wd), AG d.na d.ad d1 → d1.ce ≤ d.ce + 15 → d1.so ≤ d.so + 852 → some (d1.na, w1, w2) = some res → XG g d1 (hQ g d1 adM w1 w2) [(0, .ref b), (1, .ref (d1.ad 1)), (2, .ref (adM 50)), (3, .ref (d1.ad 34)), (4, iV i)] [] 2560) :
    XG g d (hQ g d adM wC wM) [(0, .ref b), (1, .ref (d.ad 1)), (2, .ref (adM 50)), (3, .ref (d.ad 34)), (4, iV i)] [] 1619 := by
  unfold p_op_34 at hq
  refine x_aload_n C 1 dL_law_1619 rfl ?_
  refine x_aload_n C 0 dL_law_1620 rfl ?_
  refine x_iload C 4 dL_law_1621 rfl ?_
  refine x_iconst C dL_law_1623 ?_
  refine x_iadd C dL_law_1624 ?_
  refine q_sld C hX hb hbA ⟨by omega, by omega⟩ hL dL_law_1625 ?_
  refine x_aload_n C 3 dL_law_1626 rfl ?_
  refine q_wr (mc' := 12) (ms' := 834) (rm := rmv 7 161 12 834) (As := [.ref (d.ad 1), iV (sc xs (i + 1)), .ref (d.ad 34)]) (rest := []) C hA hR hNC mfL_addPart lk_L_254 ⟨rfl, rfl⟩ ⟨Nat.le_of_ble_eq_true rfl, Nat.le_of_ble_eq_true rfl⟩ rfl rfl (Nat.le_of_ble_eq_true rfl) (lq hce (by decide) (by decide)) dL_law_1627 hq (fun _ h => c_L_addPart g.l g.G hfl h) (fun z1 d2 _ hq agd2 hn hc1 hc2 => ?_)
  have e1 := agq1 agd2; have e3 := agq3 agd2; rw [e1, e3]; rw [← hn] at hq
  refine x_istore C dL_law_1630 (by decide) rfl ?_
  refine x_aload_n C 3 dL_law_1632 rfl ?_
  refine x_aload_n C 1 dL_law_1633 rfl ?_
  refine x_iload C 5 dL_law_1634 rfl ?_
  refine x_iconst C dL_law_1636 ?_
  refine x_iadd C dL_law_1637 ?_
  refine q_sld C hX hb hbA ⟨by omega, by omega⟩ hL dL_law_1638 ?_
  refine q_mI (rm := rmv 3 66 0 0) (K := 10) (o := 50) (As := [iV (sc xs (i + 1))]) (rest := []) C hA hR mf_X9_addPart lk_L_256 rfl ⟨rfl, rfl⟩ (by decide) ⟨rfl, rfl⟩ ⟨Nat.le_of_ble_eq_true rfl, Nat.le_of_ble_eq_true rfl⟩ rfl rfl (Nat.le_of_ble_eq_true rfl) (lq1 hce hc1 hc2 (by decide) (by decide)) dL_law_1639 hq (fun _ _ h => c_X9_addPart g.l g.G rfl h) (fun rm3 wm3 _ hq => ?_)
  refine x_istore C dL_law_1642 (by decide) rfl ?_
  refine x_aload_n C 4 dL_law_1644 rfl ?_
  refine q_mI (rm := rmv 0 0 0 0) (K := 10) (o := 50) (As := []) (rest := []) C hA hR mf_X9_thrown lk_L_130 rfl ⟨rfl, rfl⟩ (by decide) ⟨rfl, rfl⟩ ⟨Nat.le_of_ble_eq_true rfl, Nat.le_of_ble_eq_true rfl⟩ rfl rfl (Nat.le_of_ble_eq_true rfl) (lq1 hce hc1 hc2 (by decide) (by decide)) dL_law_1645 hq (fun _ _ h => c_X9_thrown g.l g.G rfl h) (fun rm4 wm4 _ hq => ?_)
  refine x_iload C 1 dL_law_1648 rfl ?_
  refine x_icmp_eq (tgt := 1655) C dL_law_1650 (by decide) hq (fun hq => ?_) (fun hq => ?_)
  · refine x_iload C 1 dL_law_1655 rfl ?_
    refine x_if_ne (tgt := 1672) C dL_law_1657 (by decide) hq (fun hq => ?_) (fun hq => ?_)
    · refine x_goto (tgt := 2560) C dL_law_1672 (by decide) ?_
      refine XG.sub [2, 3, 4, 5, 6] rfl ?_
      exact K d2 _ _ (agd2) (lc hc1 (by decide)) (lc hc2 (by decide)) hq
    · refine x_aload_n C 5 dL_law_1660 rfl ?_
      refine x_iconst C dL_law_1661 ?_
      refine q_lald C (by decide) dL_law_1662 ?_
      refine x_iload C 0 dL_law_1663 rfl ?_
      refine x_i2l C dL_law_1665 ?_
      refine x_lcmp C dL_law_1666 ?_
      refine x_if_eq (tgt := 1672) C dL_law_1667 (by decide) hq (fun hq => ?_) (fun hq => ?_)
      · refine x_goto (tgt := 2560) C dL_law_1672 (by decide) ?_
        refine XG.sub [2, 3, 4, 5, 6] rfl ?_
        exact K d2 _ _ (agd2) (lc hc1 (by decide)) (lc hc2 (by decide)) hq
      · exact nomatch hq
  · exact nomatch hq
theorem L_op_35 {g : Cx} {ret9 : Option FieldType} (C : CX g cL_law 9 ret9 RL) (hfl : g.l.stackTraces = false) (hA : ∀ q : Nat, g.s.heap.size ≤ q → g.A q) (hR : g.R = room_1) (hNC : NC3 g.s) {b L : Nat} {xs : Nat → Int32} (hX : va_X b L xs g.s g.s.heap) (hb : b < g.s.heap.size) (hbA : ¬ g.A b) (hL : L ≤ 3072) {i : Int} (hi : 0 ≤ i ∧ i + 5 < L) {d : Dl} {adM : Nat → Nat} {wC wM : Wd} (hce : d.ce + 15 ≤ MCL ∧ d.so + 852 ≤ MSL) {res : Nat × Wd × Wd} (hq : p_op_35 xs i d.na wC wM = some res)
    (K : ∀ (d1 : Dl) (w1 w2 : Wd), AG d.na d.ad d1 → d1.ce ≤ d.ce + 15 → d1.so ≤ d.so + 852 → some (d1.na, w1, w2) = some res → XG g d1 (hQ g d1 adM w1 w2) [(0, .ref b), (1, .ref (d1.ad 1)), (2, .ref (adM 50)), (3, .ref (d1.ad 34)), (4, iV i)] [] 2560) :
    XG g d (hQ g d adM wC wM) [(0, .ref b), (1, .ref (d.ad 1)), (2, .ref (adM 50)), (3, .ref (d.ad 34)), (4, iV i)] [] 1675 := by
  unfold p_op_35 at hq
  refine x_aload_n C 1 dL_law_1675 rfl ?_
  refine x_aload_n C 0 dL_law_1676 rfl ?_
  refine x_iload C 4 dL_law_1677 rfl ?_
  refine x_iconst C dL_law_1679 ?_
  refine x_iadd C dL_law_1680 ?_
  refine q_sld C hX hb hbA ⟨by omega, by omega⟩ hL dL_law_1681 ?_
  refine x_aload_n C 3 dL_law_1682 rfl ?_
  refine q_wr (mc' := 14) (ms' := 846) (rm := rmv 8 160 14 846) (As := [.ref (d.ad 1), iV (sc xs (i + 1)), .ref (d.ad 34)]) (rest := []) C hA hR hNC mfL_dropPart lk_L_257 ⟨rfl, rfl⟩ ⟨Nat.le_of_ble_eq_true rfl, Nat.le_of_ble_eq_true rfl⟩ rfl rfl (Nat.le_of_ble_eq_true rfl) (lq hce (by decide) (by decide)) dL_law_1683 hq (fun _ h => c_L_dropPart g.l g.G hfl h) (fun z1 d2 _ hq agd2 hn hc1 hc2 => ?_)
  have e1 := agq1 agd2; have e3 := agq3 agd2; rw [e1, e3]; rw [← hn] at hq
  refine x_istore C dL_law_1686 (by decide) rfl ?_
  refine x_aload_n C 3 dL_law_1688 rfl ?_
  refine x_aload_n C 1 dL_law_1689 rfl ?_
  refine x_iload C 5 dL_law_1690 rfl ?_
  refine x_iconst C dL_law_1692 ?_
  refine x_iadd C dL_law_1693 ?_
  refine q_sld C hX hb hbA ⟨by omega, by omega⟩ hL dL_law_1694 ?_
  refine q_mI (rm := rmv 11 256 0 0) (K := 10) (o := 50) (As := [iV (sc xs (i + 1))]) (rest := []) C hA hR mf_X9_dropPart lk_L_259 rfl ⟨rfl, rfl⟩ (by decide) ⟨rfl, rfl⟩ ⟨Nat.le_of_ble_eq_true rfl, Nat.le_of_ble_eq_true rfl⟩ rfl rfl (Nat.le_of_ble_eq_true rfl) (lq1 hce hc1 hc2 (by decide) (by decide)) dL_law_1695 hq (fun _ _ h => c_X9_dropPart g.l g.G rfl h) (fun rm3 wm3 _ hq => ?_)
  refine x_istore C dL_law_1698 (by decide) rfl ?_
  refine x_aload_n C 4 dL_law_1700 rfl ?_
  refine q_mI (rm := rmv 0 0 0 0) (K := 10) (o := 50) (As := []) (rest := []) C hA hR mf_X9_thrown lk_L_130 rfl ⟨rfl, rfl⟩ (by decide) ⟨rfl, rfl⟩ ⟨Nat.le_of_ble_eq_true rfl, Nat.le_of_ble_eq_true rfl⟩ rfl rfl (Nat.le_of_ble_eq_true rfl) (lq1 hce hc1 hc2 (by decide) (by decide)) dL_law_1701 hq (fun _ _ h => c_X9_thrown g.l g.G rfl h) (fun rm4 wm4 _ hq => ?_)
  refine x_iload C 1 dL_law_1704 rfl ?_
  refine x_icmp_eq (tgt := 1711) C dL_law_1706 (by decide) hq (fun hq => ?_) (fun hq => ?_)
  · refine x_iload C 1 dL_law_1711 rfl ?_
    refine x_if_ne (tgt := 1728) C dL_law_1713 (by decide) hq (fun hq => ?_) (fun hq => ?_)
    · refine x_goto (tgt := 2560) C dL_law_1728 (by decide) ?_
      refine XG.sub [2, 3, 4, 5, 6] rfl ?_
      exact K d2 _ _ (agd2) (lc hc1 (by decide)) (lc hc2 (by decide)) hq
    · refine x_aload_n C 5 dL_law_1716 rfl ?_
      refine x_iconst C dL_law_1717 ?_
      refine q_lald C (by decide) dL_law_1718 ?_
      refine x_iload C 0 dL_law_1719 rfl ?_
      refine x_i2l C dL_law_1721 ?_
      refine x_lcmp C dL_law_1722 ?_
      refine x_if_eq (tgt := 1728) C dL_law_1723 (by decide) hq (fun hq => ?_) (fun hq => ?_)
      · refine x_goto (tgt := 2560) C dL_law_1728 (by decide) ?_
        refine XG.sub [2, 3, 4, 5, 6] rfl ?_
        exact K d2 _ _ (agd2) (lc hc1 (by decide)) (lc hc2 (by decide)) hq
      · exact nomatch hq
  · exact nomatch hq
theorem L_op_36 {g : Cx} {ret9 : Option FieldType} (C : CX g cL_law 9 ret9 RL) (hfl : g.l.stackTraces = false) (hA : ∀ q : Nat, g.s.heap.size ≤ q → g.A q) (hR : g.R = room_1) (hNC : NC3 g.s) {b L : Nat} {xs : Nat → Int32} (hX : va_X b L xs g.s g.s.heap) (hb : b < g.s.heap.size) (hbA : ¬ g.A b) (hL : L ≤ 3072) {i : Int} (hi : 0 ≤ i ∧ i + 5 < L) {d : Dl} {adM : Nat → Nat} {wC wM : Wd} (hce : d.ce + 15 ≤ MCL ∧ d.so + 852 ≤ MSL) {res : Nat × Wd × Wd} (hq : p_op_36 xs i d.na wC wM = some res)
    (K : ∀ (d1 : Dl) (w1 w2 : Wd), AG d.na d.ad d1 → d1.ce ≤ d.ce + 15 → d1.so ≤ d.so + 852 → some (d1.na, w1, w2) = some res → XG g d1 (hQ g d1 adM w1 w2) [(0, .ref b), (1, .ref (d1.ad 1)), (2, .ref (adM 50)), (3, .ref (d1.ad 34)), (4, iV i)] [] 2560) :
    XG g d (hQ g d adM wC wM) [(0, .ref b), (1, .ref (d.ad 1)), (2, .ref (adM 50)), (3, .ref (d.ad 34)), (4, iV i)] [] 1731 := by
  unfold p_op_36 at hq
  refine x_aload_n C 1 dL_law_1731 rfl ?_
  refine x_aload_n C 0 dL_law_1732 rfl ?_
  refine x_iload C 4 dL_law_1733 rfl ?_
  refine x_iconst C dL_law_1735 ?_
  refine x_iadd C dL_law_1736 ?_
  refine q_sld C hX hb hbA ⟨by omega, by omega⟩ hL dL_law_1737 ?_
  refine x_aload_n C 0 dL_law_1738 rfl ?_
  refine x_iload C 4 dL_law_1739 rfl ?_
  refine x_iconst C dL_law_1741 ?_
  refine x_iadd C dL_law_1742 ?_
  refine q_sld C hX hb hbA ⟨by omega, by omega⟩ hL dL_law_1743 ?_
  refine x_aload_n C 3 dL_law_1744 rfl ?_
  refine q_wr (mc' := 15) (ms' := 852) (rm := rmv 8 161 15 852) (As := [.ref (d.ad 1), iV (sc xs (i + 1)), iV (sc xs (i + 2)), .ref (d.ad 34)]) (rest := []) C hA hR hNC mfL_movePart lk_L_260 ⟨rfl, rfl⟩ ⟨Nat.le_of_ble_eq_true rfl, Nat.le_of_ble_eq_true rfl⟩ rfl rfl (Nat.le_of_ble_eq_true rfl) (lq hce (by decide) (by decide)) dL_law_1745 hq (fun _ h => c_L_movePart g.l g.G hfl h) (fun z1 d2 _ hq agd2 hn hc1 hc2 => ?_)
  have e1 := agq1 agd2; have e3 := agq3 agd2; rw [e1, e3]; rw [← hn] at hq
  refine x_istore C dL_law_1748 (by decide) rfl ?_
  refine x_aload_n C 3 dL_law_1750 rfl ?_
  refine x_aload_n C 1 dL_law_1751 rfl ?_
  refine x_iload C 5 dL_law_1752 rfl ?_
  refine x_iconst C dL_law_1754 ?_
  refine x_iadd C dL_law_1755 ?_
  refine q_sld C hX hb hbA ⟨by omega, by omega⟩ hL dL_law_1756 ?_
  refine x_aload_n C 1 dL_law_1757 rfl ?_
  refine x_iload C 5 dL_law_1758 rfl ?_
  refine x_iconst C dL_law_1760 ?_
  refine x_iadd C dL_law_1761 ?_
  refine q_sld C hX hb hbA ⟨by omega, by omega⟩ hL dL_law_1762 ?_
  refine q_mI (rm := rmv 11 256 0 0) (K := 10) (o := 50) (As := [iV (sc xs (i + 1)), iV (sc xs (i + 2))]) (rest := []) C hA hR mf_X9_movePart lk_L_262 rfl ⟨rfl, rfl⟩ (by decide) ⟨rfl, rfl⟩ ⟨Nat.le_of_ble_eq_true rfl, Nat.le_of_ble_eq_true rfl⟩ rfl rfl (Nat.le_of_ble_eq_true rfl) (lq1 hce hc1 hc2 (by decide) (by decide)) dL_law_1763 hq (fun _ _ h => c_X9_movePart g.l g.G rfl h) (fun rm3 wm3 _ hq => ?_)
  refine x_istore C dL_law_1766 (by decide) rfl ?_
  refine x_aload_n C 4 dL_law_1768 rfl ?_
  refine q_mI (rm := rmv 0 0 0 0) (K := 10) (o := 50) (As := []) (rest := []) C hA hR mf_X9_thrown lk_L_130 rfl ⟨rfl, rfl⟩ (by decide) ⟨rfl, rfl⟩ ⟨Nat.le_of_ble_eq_true rfl, Nat.le_of_ble_eq_true rfl⟩ rfl rfl (Nat.le_of_ble_eq_true rfl) (lq1 hce hc1 hc2 (by decide) (by decide)) dL_law_1769 hq (fun _ _ h => c_X9_thrown g.l g.G rfl h) (fun rm4 wm4 _ hq => ?_)
  refine x_iload C 1 dL_law_1772 rfl ?_
  refine x_icmp_eq (tgt := 1779) C dL_law_1774 (by decide) hq (fun hq => ?_) (fun hq => ?_)
  · refine x_iload C 1 dL_law_1779 rfl ?_
    refine x_if_ne (tgt := 1796) C dL_law_1781 (by decide) hq (fun hq => ?_) (fun hq => ?_)
    · refine x_goto (tgt := 2560) C dL_law_1796 (by decide) ?_
      refine XG.sub [2, 3, 4, 5, 6] rfl ?_
      exact K d2 _ _ (agd2) (lc hc1 (by decide)) (lc hc2 (by decide)) hq
    · refine x_aload_n C 5 dL_law_1784 rfl ?_
      refine x_iconst C dL_law_1785 ?_
      refine q_lald C (by decide) dL_law_1786 ?_
      refine x_iload C 0 dL_law_1787 rfl ?_
      refine x_i2l C dL_law_1789 ?_
      refine x_lcmp C dL_law_1790 ?_
      refine x_if_eq (tgt := 1796) C dL_law_1791 (by decide) hq (fun hq => ?_) (fun hq => ?_)
      · refine x_goto (tgt := 2560) C dL_law_1796 (by decide) ?_
        refine XG.sub [2, 3, 4, 5, 6] rfl ?_
        exact K d2 _ _ (agd2) (lc hc1 (by decide)) (lc hc2 (by decide)) hq
      · exact nomatch hq
  · exact nomatch hq
theorem L_op_37 {g : Cx} {ret9 : Option FieldType} (C : CX g cL_law 9 ret9 RL) (hfl : g.l.stackTraces = false) (hA : ∀ q : Nat, g.s.heap.size ≤ q → g.A q) (hR : g.R = room_1) (hNC : NC3 g.s) {b L : Nat} {xs : Nat → Int32} (hX : va_X b L xs g.s g.s.heap) (hb : b < g.s.heap.size) (hbA : ¬ g.A b) (hL : L ≤ 3072) {i : Int} (hi : 0 ≤ i ∧ i + 5 < L) {d : Dl} {adM : Nat → Nat} {wC wM : Wd} (hce : d.ce + 15 ≤ MCL ∧ d.so + 852 ≤ MSL) {res : Nat × Wd × Wd} (hq : p_op_37 xs i d.na wC wM = some res)
    (K : ∀ (d1 : Dl) (w1 w2 : Wd), AG d.na d.ad d1 → d1.ce ≤ d.ce + 15 → d1.so ≤ d.so + 852 → some (d1.na, w1, w2) = some res → XG g d1 (hQ g d1 adM w1 w2) [(0, .ref b), (1, .ref (d1.ad 1)), (2, .ref (adM 50)), (3, .ref (d1.ad 34)), (4, iV i)] [] 2560) :
    XG g d (hQ g d adM wC wM) [(0, .ref b), (1, .ref (d.ad 1)), (2, .ref (adM 50)), (3, .ref (d.ad 34)), (4, iV i)] [] 1799 := by
  unfold p_op_37 at hq
  refine x_aload_n C 1 dL_law_1799 rfl ?_
  refine x_aload_n C 0 dL_law_1800 rfl ?_
  refine x_iload C 4 dL_law_1801 rfl ?_
  refine x_iconst C dL_law_1803 ?_
  refine x_iadd C dL_law_1804 ?_
  refine q_sld C hX hb hbA ⟨by omega, by omega⟩ hL dL_law_1805 ?_
  refine x_aload_n C 0 dL_law_1806 rfl ?_
  refine x_iload C 4 dL_law_1807 rfl ?_
  refine x_iconst C dL_law_1809 ?_
  refine x_iadd C dL_law_1810 ?_
  refine q_sld C hX hb hbA ⟨by omega, by omega⟩ hL dL_law_1811 ?_
  refine x_aload_n C 0 dL_law_1812 rfl ?_
  refine x_iload C 4 dL_law_1813 rfl ?_
  refine x_iconst C dL_law_1815 ?_
  refine x_iadd C dL_law_1816 ?_
  refine q_sld C hX hb hbA ⟨by omega, by omega⟩ hL dL_law_1817 ?_
  refine x_if_eq (tgt := 1825) C dL_law_1818 (by decide) hq (fun hq => ?_) (fun hq => ?_)
  · refine x_iconst C dL_law_1825 ?_
    refine x_aload_n C 3 dL_law_1826 rfl ?_
    refine q_wr (mc' := 15) (ms' := 852) (rm := rmv 9 163 15 852) (As := [.ref (d.ad 1), iV (sc xs (i + 1)), iV (sc xs (i + 2)), iV 0, .ref (d.ad 34)]) (rest := []) C hA hR hNC mfL_setFlaw lk_L_263 ⟨rfl, rfl⟩ ⟨Nat.le_of_ble_eq_true rfl, Nat.le_of_ble_eq_true rfl⟩ rfl rfl (Nat.le_of_ble_eq_true rfl) (lq hce (by decide) (by decide)) dL_law_1827 hq (fun _ h => c_L_setFlaw g.l g.G hfl h) (fun z1 d2 _ hq agd2 hn hc1 hc2 => ?_)
    have e1 := agq1 agd2; have e3 := agq3 agd2; rw [e1, e3]; rw [← hn] at hq
    refine x_istore C dL_law_1830 (by decide) rfl ?_
    refine x_aload_n C 3 dL_law_1832 rfl ?_
    refine x_aload_n C 1 dL_law_1833 rfl ?_
    refine x_iload C 5 dL_law_1834 rfl ?_
    refine x_iconst C dL_law_1836 ?_
    refine x_iadd C dL_law_1837 ?_
    refine q_sld C hX hb hbA ⟨by omega, by omega⟩ hL dL_law_1838 ?_
    refine x_aload_n C 1 dL_law_1839 rfl ?_
    refine x_iload C 5 dL_law_1840 rfl ?_
    refine x_iconst C dL_law_1842 ?_
    refine x_iadd C dL_law_1843 ?_
    refine q_sld C hX hb hbA ⟨by omega, by omega⟩ hL dL_law_1844 ?_
    refine x_aload_n C 1 dL_law_1845 rfl ?_
    refine x_iload C 5 dL_law_1846 rfl ?_
    refine x_iconst C dL_law_1848 ?_
    refine x_iadd C dL_law_1849 ?_
    refine q_sld C hX hb hbA ⟨by omega, by omega⟩ hL dL_law_1850 ?_
    refine x_if_eq (tgt := 1858) C dL_law_1851 (by decide) hq (fun hq => ?_) (fun hq => ?_)
    · refine x_iconst C dL_law_1858 ?_
      refine q_mI (rm := rmv 11 256 0 0) (K := 10) (o := 50) (As := [iV (sc xs (i + 1)), iV (sc xs (i + 2)), iV 0]) (rest := []) C hA hR mf_X9_setFlaw lk_L_266 rfl ⟨rfl, rfl⟩ (by decide) ⟨rfl, rfl⟩ ⟨Nat.le_of_ble_eq_true rfl, Nat.le_of_ble_eq_true rfl⟩ rfl rfl (Nat.le_of_ble_eq_true rfl) (lq1 hce hc1 hc2 (by decide) (by decide)) dL_law_1859 hq (fun _ _ h => c_X9_setFlaw g.l g.G rfl h) (fun rm3 wm3 _ hq => ?_)
      refine x_istore C dL_law_1862 (by decide) rfl ?_
      refine x_aload_n C 4 dL_law_1864 rfl ?_
      refine q_mI (rm := rmv 0 0 0 0) (K := 10) (o := 50) (As := []) (rest := []) C hA hR mf_X9_thrown lk_L_130 rfl ⟨rfl, rfl⟩ (by decide) ⟨rfl, rfl⟩ ⟨Nat.le_of_ble_eq_true rfl, Nat.le_of_ble_eq_true rfl⟩ rfl rfl (Nat.le_of_ble_eq_true rfl) (lq1 hce hc1 hc2 (by decide) (by decide)) dL_law_1865 hq (fun _ _ h => c_X9_thrown g.l g.G rfl h) (fun rm4 wm4 _ hq => ?_)
      refine x_iload C 1 dL_law_1868 rfl ?_
      refine x_icmp_eq (tgt := 1875) C dL_law_1870 (by decide) hq (fun hq => ?_) (fun hq => ?_)
      · refine x_iload C 1 dL_law_1875 rfl ?_
        refine x_if_ne (tgt := 1899) C dL_law_1877 (by decide) hq (fun hq => ?_) (fun hq => ?_)
        · refine x_goto (tgt := 2560) C dL_law_1899 (by decide) ?_
          refine XG.sub [2, 3, 4, 5, 6] rfl ?_
          exact K d2 _ _ (agd2) (lc hc1 (by decide)) (lc hc2 (by decide)) hq
        · refine x_aload_n C 5 dL_law_1880 rfl ?_
          refine x_iconst C dL_law_1881 ?_
          refine q_lald C (by decide) dL_law_1882 ?_
          refine x_iload C 0 dL_law_1883 rfl ?_
          refine x_if_eq (tgt := 1892) C dL_law_1885 (by decide) hq (fun hq => ?_) (fun hq => ?_)
          · refine x_lconst C dL_law_1892 ?_
            refine x_lcmp C dL_law_1893 ?_
            refine x_if_eq (tgt := 1899) C dL_law_1894 (by decide) hq (fun hq => ?_) (fun hq => ?_)
            · refine x_goto (tgt := 2560) C dL_law_1899 (by decide) ?_
              refine XG.sub [2, 3, 4, 5, 6] rfl ?_
              exact K d2 _ _ (agd2) (lc hc1 (by decide)) (lc hc2 (by decide)) hq
            · exact nomatch hq
          · refine x_lconst C dL_law_1888 ?_
            refine x_goto (tgt := 1893) C dL_law_1889 (by decide) ?_
            refine x_lcmp C dL_law_1893 ?_
            refine x_if_eq (tgt := 1899) C dL_law_1894 (by decide) hq (fun hq => ?_) (fun hq => ?_)
            · refine x_goto (tgt := 2560) C dL_law_1899 (by decide) ?_
              refine XG.sub [2, 3, 4, 5, 6] rfl ?_
              exact K d2 _ _ (agd2) (lc hc1 (by decide)) (lc hc2 (by decide)) hq
            · exact nomatch hq
      · exact nomatch hq
    · refine x_iconst C dL_law_1854 ?_
      refine x_goto (tgt := 1859) C dL_law_1855 (by decide) ?_
      refine q_mI (rm := rmv 11 256 0 0) (K := 10) (o := 50) (As := [iV (sc xs (i + 1)), iV (sc xs (i + 2)), iV 1]) (rest := []) C hA hR mf_X9_setFlaw lk_L_266 rfl ⟨rfl, rfl⟩ (by decide) ⟨rfl, rfl⟩ ⟨Nat.le_of_ble_eq_true rfl, Nat.le_of_ble_eq_true rfl⟩ rfl rfl (Nat.le_of_ble_eq_true rfl) (lq1 hce hc1 hc2 (by decide) (by decide)) dL_law_1859 hq (fun _ _ h => c_X9_setFlaw g.l g.G rfl h) (fun rm5 wm5 _ hq => ?_)
      refine x_istore C dL_law_1862 (by decide) rfl ?_
      refine x_aload_n C 4 dL_law_1864 rfl ?_
      refine q_mI (rm := rmv 0 0 0 0) (K := 10) (o := 50) (As := []) (rest := []) C hA hR mf_X9_thrown lk_L_130 rfl ⟨rfl, rfl⟩ (by decide) ⟨rfl, rfl⟩ ⟨Nat.le_of_ble_eq_true rfl, Nat.le_of_ble_eq_true rfl⟩ rfl rfl (Nat.le_of_ble_eq_true rfl) (lq1 hce hc1 hc2 (by decide) (by decide)) dL_law_1865 hq (fun _ _ h => c_X9_thrown g.l g.G rfl h) (fun rm6 wm6 _ hq => ?_)
      refine x_iload C 1 dL_law_1868 rfl ?_
      refine x_icmp_eq (tgt := 1875) C dL_law_1870 (by decide) hq (fun hq => ?_) (fun hq => ?_)
      · refine x_iload C 1 dL_law_1875 rfl ?_
        refine x_if_ne (tgt := 1899) C dL_law_1877 (by decide) hq (fun hq => ?_) (fun hq => ?_)
        · refine x_goto (tgt := 2560) C dL_law_1899 (by decide) ?_
          refine XG.sub [2, 3, 4, 5, 6] rfl ?_
          exact K d2 _ _ (agd2) (lc hc1 (by decide)) (lc hc2 (by decide)) hq
        · refine x_aload_n C 5 dL_law_1880 rfl ?_
          refine x_iconst C dL_law_1881 ?_
          refine q_lald C (by decide) dL_law_1882 ?_
          refine x_iload C 0 dL_law_1883 rfl ?_
          refine x_if_eq (tgt := 1892) C dL_law_1885 (by decide) hq (fun hq => ?_) (fun hq => ?_)
          · refine x_lconst C dL_law_1892 ?_
            refine x_lcmp C dL_law_1893 ?_
            refine x_if_eq (tgt := 1899) C dL_law_1894 (by decide) hq (fun hq => ?_) (fun hq => ?_)
            · refine x_goto (tgt := 2560) C dL_law_1899 (by decide) ?_
              refine XG.sub [2, 3, 4, 5, 6] rfl ?_
              exact K d2 _ _ (agd2) (lc hc1 (by decide)) (lc hc2 (by decide)) hq
            · exact nomatch hq
          · refine x_lconst C dL_law_1888 ?_
            refine x_goto (tgt := 1893) C dL_law_1889 (by decide) ?_
            refine x_lcmp C dL_law_1893 ?_
            refine x_if_eq (tgt := 1899) C dL_law_1894 (by decide) hq (fun hq => ?_) (fun hq => ?_)
            · refine x_goto (tgt := 2560) C dL_law_1899 (by decide) ?_
              refine XG.sub [2, 3, 4, 5, 6] rfl ?_
              exact K d2 _ _ (agd2) (lc hc1 (by decide)) (lc hc2 (by decide)) hq
            · exact nomatch hq
      · exact nomatch hq
  · refine x_iconst C dL_law_1821 ?_
    refine x_goto (tgt := 1826) C dL_law_1822 (by decide) ?_
    refine x_aload_n C 3 dL_law_1826 rfl ?_
    refine q_wr (mc' := 15) (ms' := 852) (rm := rmv 9 163 15 852) (As := [.ref (d.ad 1), iV (sc xs (i + 1)), iV (sc xs (i + 2)), iV 1, .ref (d.ad 34)]) (rest := []) C hA hR hNC mfL_setFlaw lk_L_263 ⟨rfl, rfl⟩ ⟨Nat.le_of_ble_eq_true rfl, Nat.le_of_ble_eq_true rfl⟩ rfl rfl (Nat.le_of_ble_eq_true rfl) (lq hce (by decide) (by decide)) dL_law_1827 hq (fun _ h => c_L_setFlaw g.l g.G hfl h) (fun z7 d8 _ hq agd8 hn hc1 hc2 => ?_)
    have e1 := agq1 agd8; have e3 := agq3 agd8; rw [e1, e3]; rw [← hn] at hq
    refine x_istore C dL_law_1830 (by decide) rfl ?_
    refine x_aload_n C 3 dL_law_1832 rfl ?_
    refine x_aload_n C 1 dL_law_1833 rfl ?_
    refine x_iload C 5 dL_law_1834 rfl ?_
    refine x_iconst C dL_law_1836 ?_
    refine x_iadd C dL_law_1837 ?_
    refine q_sld C hX hb hbA ⟨by omega, by omega⟩ hL dL_law_1838 ?_
    refine x_aload_n C 1 dL_law_1839 rfl ?_
    refine x_iload C 5 dL_law_1840 rfl ?_
    refine x_iconst C dL_law_1842 ?_
    refine x_iadd C dL_law_1843 ?_
    refine q_sld C hX hb hbA ⟨by omega, by omega⟩ hL dL_law_1844 ?_
    refine x_aload_n C 1 dL_law_1845 rfl ?_
    refine x_iload C 5 dL_law_1846 rfl ?_
    refine x_iconst C dL_law_1848 ?_
    refine x_iadd C dL_law_1849 ?_
    refine q_sld C hX hb hbA ⟨by omega, by omega⟩ hL dL_law_1850 ?_
    refine x_if_eq (tgt := 1858) C dL_law_1851 (by decide) hq (fun hq => ?_) (fun hq => ?_)
    · refine x_iconst C dL_law_1858 ?_
      refine q_mI (rm := rmv 11 256 0 0) (K := 10) (o := 50) (As := [iV (sc xs (i + 1)), iV (sc xs (i + 2)), iV 0]) (rest := []) C hA hR mf_X9_setFlaw lk_L_266 rfl ⟨rfl, rfl⟩ (by decide) ⟨rfl, rfl⟩ ⟨Nat.le_of_ble_eq_true rfl, Nat.le_of_ble_eq_true rfl⟩ rfl rfl (Nat.le_of_ble_eq_true rfl) (lq1 hce hc1 hc2 (by decide) (by decide)) dL_law_1859 hq (fun _ _ h => c_X9_setFlaw g.l g.G rfl h) (fun rm9 wm9 _ hq => ?_)
      refine x_istore C dL_law_1862 (by decide) rfl ?_
      refine x_aload_n C 4 dL_law_1864 rfl ?_
      refine q_mI (rm := rmv 0 0 0 0) (K := 10) (o := 50) (As := []) (rest := []) C hA hR mf_X9_thrown lk_L_130 rfl ⟨rfl, rfl⟩ (by decide) ⟨rfl, rfl⟩ ⟨Nat.le_of_ble_eq_true rfl, Nat.le_of_ble_eq_true rfl⟩ rfl rfl (Nat.le_of_ble_eq_true rfl) (lq1 hce hc1 hc2 (by decide) (by decide)) dL_law_1865 hq (fun _ _ h => c_X9_thrown g.l g.G rfl h) (fun rm10 wm10 _ hq => ?_)
      refine x_iload C 1 dL_law_1868 rfl ?_
      refine x_icmp_eq (tgt := 1875) C dL_law_1870 (by decide) hq (fun hq => ?_) (fun hq => ?_)
      · refine x_iload C 1 dL_law_1875 rfl ?_
        refine x_if_ne (tgt := 1899) C dL_law_1877 (by decide) hq (fun hq => ?_) (fun hq => ?_)
        · refine x_goto (tgt := 2560) C dL_law_1899 (by decide) ?_
          refine XG.sub [2, 3, 4, 5, 6] rfl ?_
          exact K d8 _ _ (agd8) (lc hc1 (by decide)) (lc hc2 (by decide)) hq
        · refine x_aload_n C 5 dL_law_1880 rfl ?_
          refine x_iconst C dL_law_1881 ?_
          refine q_lald C (by decide) dL_law_1882 ?_
          refine x_iload C 0 dL_law_1883 rfl ?_
          refine x_if_eq (tgt := 1892) C dL_law_1885 (by decide) hq (fun hq => ?_) (fun hq => ?_)
          · refine x_lconst C dL_law_1892 ?_
            refine x_lcmp C dL_law_1893 ?_
            refine x_if_eq (tgt := 1899) C dL_law_1894 (by decide) hq (fun hq => ?_) (fun hq => ?_)
            · refine x_goto (tgt := 2560) C dL_law_1899 (by decide) ?_
              refine XG.sub [2, 3, 4, 5, 6] rfl ?_
              exact K d8 _ _ (agd8) (lc hc1 (by decide)) (lc hc2 (by decide)) hq
            · exact nomatch hq
          · refine x_lconst C dL_law_1888 ?_
            refine x_goto (tgt := 1893) C dL_law_1889 (by decide) ?_
            refine x_lcmp C dL_law_1893 ?_
            refine x_if_eq (tgt := 1899) C dL_law_1894 (by decide) hq (fun hq => ?_) (fun hq => ?_)
            · refine x_goto (tgt := 2560) C dL_law_1899 (by decide) ?_
              refine XG.sub [2, 3, 4, 5, 6] rfl ?_
              exact K d8 _ _ (agd8) (lc hc1 (by decide)) (lc hc2 (by decide)) hq
            · exact nomatch hq
      · exact nomatch hq
    · refine x_iconst C dL_law_1854 ?_
      refine x_goto (tgt := 1859) C dL_law_1855 (by decide) ?_
      refine q_mI (rm := rmv 11 256 0 0) (K := 10) (o := 50) (As := [iV (sc xs (i + 1)), iV (sc xs (i + 2)), iV 1]) (rest := []) C hA hR mf_X9_setFlaw lk_L_266 rfl ⟨rfl, rfl⟩ (by decide) ⟨rfl, rfl⟩ ⟨Nat.le_of_ble_eq_true rfl, Nat.le_of_ble_eq_true rfl⟩ rfl rfl (Nat.le_of_ble_eq_true rfl) (lq1 hce hc1 hc2 (by decide) (by decide)) dL_law_1859 hq (fun _ _ h => c_X9_setFlaw g.l g.G rfl h) (fun rm11 wm11 _ hq => ?_)
      refine x_istore C dL_law_1862 (by decide) rfl ?_
      refine x_aload_n C 4 dL_law_1864 rfl ?_
      refine q_mI (rm := rmv 0 0 0 0) (K := 10) (o := 50) (As := []) (rest := []) C hA hR mf_X9_thrown lk_L_130 rfl ⟨rfl, rfl⟩ (by decide) ⟨rfl, rfl⟩ ⟨Nat.le_of_ble_eq_true rfl, Nat.le_of_ble_eq_true rfl⟩ rfl rfl (Nat.le_of_ble_eq_true rfl) (lq1 hce hc1 hc2 (by decide) (by decide)) dL_law_1865 hq (fun _ _ h => c_X9_thrown g.l g.G rfl h) (fun rm12 wm12 _ hq => ?_)
      refine x_iload C 1 dL_law_1868 rfl ?_
      refine x_icmp_eq (tgt := 1875) C dL_law_1870 (by decide) hq (fun hq => ?_) (fun hq => ?_)
      · refine x_iload C 1 dL_law_1875 rfl ?_
        refine x_if_ne (tgt := 1899) C dL_law_1877 (by decide) hq (fun hq => ?_) (fun hq => ?_)
        · refine x_goto (tgt := 2560) C dL_law_1899 (by decide) ?_
          refine XG.sub [2, 3, 4, 5, 6] rfl ?_
          exact K d8 _ _ (agd8) (lc hc1 (by decide)) (lc hc2 (by decide)) hq
        · refine x_aload_n C 5 dL_law_1880 rfl ?_
          refine x_iconst C dL_law_1881 ?_
          refine q_lald C (by decide) dL_law_1882 ?_
          refine x_iload C 0 dL_law_1883 rfl ?_
          refine x_if_eq (tgt := 1892) C dL_law_1885 (by decide) hq (fun hq => ?_) (fun hq => ?_)
          · refine x_lconst C dL_law_1892 ?_
            refine x_lcmp C dL_law_1893 ?_
            refine x_if_eq (tgt := 1899) C dL_law_1894 (by decide) hq (fun hq => ?_) (fun hq => ?_)
            · refine x_goto (tgt := 2560) C dL_law_1899 (by decide) ?_
              refine XG.sub [2, 3, 4, 5, 6] rfl ?_
              exact K d8 _ _ (agd8) (lc hc1 (by decide)) (lc hc2 (by decide)) hq
            · exact nomatch hq
          · refine x_lconst C dL_law_1888 ?_
            refine x_goto (tgt := 1893) C dL_law_1889 (by decide) ?_
            refine x_lcmp C dL_law_1893 ?_
            refine x_if_eq (tgt := 1899) C dL_law_1894 (by decide) hq (fun hq => ?_) (fun hq => ?_)
            · refine x_goto (tgt := 2560) C dL_law_1899 (by decide) ?_
              refine XG.sub [2, 3, 4, 5, 6] rfl ?_
              exact K d8 _ _ (agd8) (lc hc1 (by decide)) (lc hc2 (by decide)) hq
            · exact nomatch hq
      · exact nomatch hq
theorem L_op_38 {g : Cx} {ret9 : Option FieldType} (C : CX g cL_law 9 ret9 RL) (hfl : g.l.stackTraces = false) (hA : ∀ q : Nat, g.s.heap.size ≤ q → g.A q) (hR : g.R = room_1) (hNC : NC3 g.s) {b L : Nat} {xs : Nat → Int32} (hX : va_X b L xs g.s g.s.heap) (hb : b < g.s.heap.size) (hbA : ¬ g.A b) (hL : L ≤ 3072) {i : Int} (hi : 0 ≤ i ∧ i + 5 < L) {d : Dl} {adM : Nat → Nat} {wC wM : Wd} (hce : d.ce + 15 ≤ MCL ∧ d.so + 852 ≤ MSL) {res : Nat × Wd × Wd} (hq : p_op_38 xs i d.na wC wM = some res)
    (K : ∀ (d1 : Dl) (w1 w2 : Wd), AG d.na d.ad d1 → d1.ce ≤ d.ce + 15 → d1.so ≤ d.so + 852 → some (d1.na, w1, w2) = some res → XG g d1 (hQ g d1 adM w1 w2) [(0, .ref b), (1, .ref (d1.ad 1)), (2, .ref (adM 50)), (3, .ref (d1.ad 34)), (4, iV i)] [] 2560) :
    XG g d (hQ g d adM wC wM) [(0, .ref b), (1, .ref (d.ad 1)), (2, .ref (adM 50)), (3, .ref (d.ad 34)), (4, iV i)] [] 1902 := by
  unfold p_op_38 at hq
  refine x_aload_n C 1 dL_law_1902 rfl ?_
  refine x_aload_n C 0 dL_law_1903 rfl ?_
  refine x_iload C 4 dL_law_1904 rfl ?_
  refine x_iconst C dL_law_1906 ?_
  refine x_iadd C dL_law_1907 ?_
  refine q_sld C hX hb hbA ⟨by omega, by omega⟩ hL dL_law_1908 ?_
  refine x_aload_n C 3 dL_law_1909 rfl ?_
  refine q_wr (mc' := 14) (ms' := 846) (rm := rmv 8 161 14 846) (As := [.ref (d.ad 1), iV (sc xs (i + 1)), .ref (d.ad 34)]) (rest := []) C hA hR hNC mfL_setGap lk_L_267 ⟨rfl, rfl⟩ ⟨Nat.le_of_ble_eq_true rfl, Nat.le_of_ble_eq_true rfl⟩ rfl rfl (Nat.le_of_ble_eq_true rfl) (lq hce (by decide) (by decide)) dL_law_1910 hq (fun _ h => c_L_setGap g.l g.G hfl h) (fun z1 d2 _ hq agd2 hn hc1 hc2 => ?_)
  have e1 := agq1 agd2; have e3 := agq3 agd2; rw [e1, e3]; rw [← hn] at hq
  refine x_istore C dL_law_1913 (by decide) rfl ?_
  refine x_aload_n C 3 dL_law_1915 rfl ?_
  refine x_aload_n C 1 dL_law_1916 rfl ?_
  refine x_iload C 5 dL_law_1917 rfl ?_
  refine x_iconst C dL_law_1919 ?_
  refine x_iadd C dL_law_1920 ?_
  refine q_sld C hX hb hbA ⟨by omega, by omega⟩ hL dL_law_1921 ?_
  refine q_mI (rm := rmv 11 256 0 0) (K := 10) (o := 50) (As := [iV (sc xs (i + 1))]) (rest := []) C hA hR mf_X9_setGap lk_L_269 rfl ⟨rfl, rfl⟩ (by decide) ⟨rfl, rfl⟩ ⟨Nat.le_of_ble_eq_true rfl, Nat.le_of_ble_eq_true rfl⟩ rfl rfl (Nat.le_of_ble_eq_true rfl) (lq1 hce hc1 hc2 (by decide) (by decide)) dL_law_1922 hq (fun _ _ h => c_X9_setGap g.l g.G rfl h) (fun rm3 wm3 _ hq => ?_)
  refine x_istore C dL_law_1925 (by decide) rfl ?_
  refine x_aload_n C 4 dL_law_1927 rfl ?_
  refine q_mI (rm := rmv 0 0 0 0) (K := 10) (o := 50) (As := []) (rest := []) C hA hR mf_X9_thrown lk_L_130 rfl ⟨rfl, rfl⟩ (by decide) ⟨rfl, rfl⟩ ⟨Nat.le_of_ble_eq_true rfl, Nat.le_of_ble_eq_true rfl⟩ rfl rfl (Nat.le_of_ble_eq_true rfl) (lq1 hce hc1 hc2 (by decide) (by decide)) dL_law_1928 hq (fun _ _ h => c_X9_thrown g.l g.G rfl h) (fun rm4 wm4 _ hq => ?_)
  refine x_iload C 1 dL_law_1931 rfl ?_
  refine x_icmp_eq (tgt := 1938) C dL_law_1933 (by decide) hq (fun hq => ?_) (fun hq => ?_)
  · refine x_iload C 1 dL_law_1938 rfl ?_
    refine x_if_ne (tgt := 1955) C dL_law_1940 (by decide) hq (fun hq => ?_) (fun hq => ?_)
    · refine x_goto (tgt := 2560) C dL_law_1955 (by decide) ?_
      refine XG.sub [2, 3, 4, 5, 6] rfl ?_
      exact K d2 _ _ (agd2) (lc hc1 (by decide)) (lc hc2 (by decide)) hq
    · refine x_aload_n C 5 dL_law_1943 rfl ?_
      refine x_iconst C dL_law_1944 ?_
      refine q_lald C (by decide) dL_law_1945 ?_
      refine x_iload C 0 dL_law_1946 rfl ?_
      refine x_i2l C dL_law_1948 ?_
      refine x_lcmp C dL_law_1949 ?_
      refine x_if_eq (tgt := 1955) C dL_law_1950 (by decide) hq (fun hq => ?_) (fun hq => ?_)
      · refine x_goto (tgt := 2560) C dL_law_1955 (by decide) ?_
        refine XG.sub [2, 3, 4, 5, 6] rfl ?_
        exact K d2 _ _ (agd2) (lc hc1 (by decide)) (lc hc2 (by decide)) hq
      · exact nomatch hq
  · exact nomatch hq
theorem L_op_39 {g : Cx} {ret9 : Option FieldType} (C : CX g cL_law 9 ret9 RL) (hfl : g.l.stackTraces = false) (hA : ∀ q : Nat, g.s.heap.size ≤ q → g.A q) (hR : g.R = room_1) (hNC : NC3 g.s) {b L : Nat} {xs : Nat → Int32} (hX : va_X b L xs g.s g.s.heap) (hb : b < g.s.heap.size) (hbA : ¬ g.A b) (hL : L ≤ 3072) {i : Int} (hi : 0 ≤ i ∧ i + 5 < L) {d : Dl} {adM : Nat → Nat} {wC wM : Wd} (hce : d.ce + 15 ≤ MCL ∧ d.so + 852 ≤ MSL) {res : Nat × Wd × Wd} (hq : p_op_39 xs i d.na wC wM = some res)
    (K : ∀ (d1 : Dl) (w1 w2 : Wd), AG d.na d.ad d1 → d1.ce ≤ d.ce + 15 → d1.so ≤ d.so + 852 → some (d1.na, w1, w2) = some res → XG g d1 (hQ g d1 adM w1 w2) [(0, .ref b), (1, .ref (d1.ad 1)), (2, .ref (adM 50)), (3, .ref (d1.ad 34)), (4, iV i)] [] 2560) :
    XG g d (hQ g d adM wC wM) [(0, .ref b), (1, .ref (d.ad 1)), (2, .ref (adM 50)), (3, .ref (d.ad 34)), (4, iV i)] [] 1958 := by
  unfold p_op_39 at hq
  refine x_aload_n C 1 dL_law_1958 rfl ?_
  refine x_aload_n C 3 dL_law_1959 rfl ?_
  refine q_wr (mc' := 12) (ms' := 834) (rm := rmv 7 159 12 834) (As := [.ref (d.ad 1), .ref (d.ad 34)]) (rest := []) C hA hR hNC mfL_turnSlab lk_L_270 ⟨rfl, rfl⟩ ⟨Nat.le_of_ble_eq_true rfl, Nat.le_of_ble_eq_true rfl⟩ rfl rfl (Nat.le_of_ble_eq_true rfl) (lq hce (by decide) (by decide)) dL_law_1960 hq (fun _ h => c_L_turnSlab g.l g.G hfl h) (fun z1 d2 _ hq agd2 hn hc1 hc2 => ?_)
  have e1 := agq1 agd2; have e3 := agq3 agd2; rw [e1, e3]; rw [← hn] at hq
  refine x_istore C dL_law_1963 (by decide) rfl ?_
  refine x_aload_n C 3 dL_law_1965 rfl ?_
  refine q_mI (rm := rmv 9 213 0 0) (K := 10) (o := 50) (As := []) (rest := []) C hA hR mf_X9_turnSlab lk_L_273 rfl ⟨rfl, rfl⟩ (by decide) ⟨rfl, rfl⟩ ⟨Nat.le_of_ble_eq_true rfl, Nat.le_of_ble_eq_true rfl⟩ rfl rfl (Nat.le_of_ble_eq_true rfl) (lq1 hce hc1 hc2 (by decide) (by decide)) dL_law_1966 hq (fun _ _ h => c_X9_turnSlab g.l g.G rfl h) (fun rm3 wm3 _ hq => ?_)
  refine x_istore C dL_law_1969 (by decide) rfl ?_
  refine x_aload_n C 4 dL_law_1971 rfl ?_
  refine q_mI (rm := rmv 0 0 0 0) (K := 10) (o := 50) (As := []) (rest := []) C hA hR mf_X9_thrown lk_L_130 rfl ⟨rfl, rfl⟩ (by decide) ⟨rfl, rfl⟩ ⟨Nat.le_of_ble_eq_true rfl, Nat.le_of_ble_eq_true rfl⟩ rfl rfl (Nat.le_of_ble_eq_true rfl) (lq1 hce hc1 hc2 (by decide) (by decide)) dL_law_1972 hq (fun _ _ h => c_X9_thrown g.l g.G rfl h) (fun rm4 wm4 _ hq => ?_)
  refine x_iload C 1 dL_law_1975 rfl ?_
  refine x_icmp_eq (tgt := 1982) C dL_law_1977 (by decide) hq (fun hq => ?_) (fun hq => ?_)
  · refine x_iload C 1 dL_law_1982 rfl ?_
    refine x_if_ne (tgt := 1999) C dL_law_1984 (by decide) hq (fun hq => ?_) (fun hq => ?_)
    · refine x_goto (tgt := 2560) C dL_law_1999 (by decide) ?_
      refine XG.sub [2, 3, 4, 5, 6] rfl ?_
      exact K d2 _ _ (agd2) (lc hc1 (by decide)) (lc hc2 (by decide)) hq
    · refine x_aload_n C 5 dL_law_1987 rfl ?_
      refine x_iconst C dL_law_1988 ?_
      refine q_lald C (by decide) dL_law_1989 ?_
      refine x_iload C 0 dL_law_1990 rfl ?_
      refine x_i2l C dL_law_1992 ?_
      refine x_lcmp C dL_law_1993 ?_
      refine x_if_eq (tgt := 1999) C dL_law_1994 (by decide) hq (fun hq => ?_) (fun hq => ?_)
      · refine x_goto (tgt := 2560) C dL_law_1999 (by decide) ?_
        refine XG.sub [2, 3, 4, 5, 6] rfl ?_
        exact K d2 _ _ (agd2) (lc hc1 (by decide)) (lc hc2 (by decide)) hq
      · exact nomatch hq
  · exact nomatch hq
theorem L_op_40 {g : Cx} {ret9 : Option FieldType} (C : CX g cL_law 9 ret9 RL) (hfl : g.l.stackTraces = false) (hA : ∀ q : Nat, g.s.heap.size ≤ q → g.A q) (hR : g.R = room_1) (hNC : NC3 g.s) {b L : Nat} {xs : Nat → Int32} (hX : va_X b L xs g.s g.s.heap) (hb : b < g.s.heap.size) (hbA : ¬ g.A b) (hL : L ≤ 3072) {i : Int} (hi : 0 ≤ i ∧ i + 5 < L) {d : Dl} {adM : Nat → Nat} {wC wM : Wd} (hce : d.ce + 15 ≤ MCL ∧ d.so + 852 ≤ MSL) {res : Nat × Wd × Wd} (hq : p_op_40 xs i d.na wC wM = some res)
    (K : ∀ (d1 : Dl) (w1 w2 : Wd), AG d.na d.ad d1 → d1.ce ≤ d.ce + 15 → d1.so ≤ d.so + 852 → some (d1.na, w1, w2) = some res → XG g d1 (hQ g d1 adM w1 w2) [(0, .ref b), (1, .ref (d1.ad 1)), (2, .ref (adM 50)), (3, .ref (d1.ad 34)), (4, iV i)] [] 2560) :
    XG g d (hQ g d adM wC wM) [(0, .ref b), (1, .ref (d.ad 1)), (2, .ref (adM 50)), (3, .ref (d.ad 34)), (4, iV i)] [] 2002 := by
  unfold p_op_40 at hq
  refine x_aload_n C 1 dL_law_2002 rfl ?_
  refine x_aload_n C 0 dL_law_2003 rfl ?_
  refine x_iload C 4 dL_law_2004 rfl ?_
  refine x_iconst C dL_law_2006 ?_
  refine x_iadd C dL_law_2007 ?_
  refine q_sld C hX hb hbA ⟨by omega, by omega⟩ hL dL_law_2008 ?_
  refine x_aload_n C 0 dL_law_2009 rfl ?_
  refine x_iload C 4 dL_law_2010 rfl ?_
  refine x_iconst C dL_law_2012 ?_
  refine x_iadd C dL_law_2013 ?_
  refine q_sld C hX hb hbA ⟨by omega, by omega⟩ hL dL_law_2014 ?_
  refine x_if_eq (tgt := 2022) C dL_law_2015 (by decide) hq (fun hq => ?_) (fun hq => ?_)
  · refine x_iconst C dL_law_2022 ?_
    refine x_aload_n C 3 dL_law_2023 rfl ?_
    refine q_wr (mc' := 13) (ms' := 840) (rm := rmv 8 161 13 840) (As := [.ref (d.ad 1), iV (sc xs (i + 1)), iV 0, .ref (d.ad 34)]) (rest := []) C hA hR hNC mfL_cutRows lk_L_274 ⟨rfl, rfl⟩ ⟨Nat.le_of_ble_eq_true rfl, Nat.le_of_ble_eq_true rfl⟩ rfl rfl (Nat.le_of_ble_eq_true rfl) (lq hce (by decide) (by decide)) dL_law_2024 hq (fun _ h => c_L_cutRows g.l g.G hfl h) (fun z1 d2 _ hq agd2 hn hc1 hc2 => ?_)
    have e1 := agq1 agd2; have e3 := agq3 agd2; rw [e1, e3]; rw [← hn] at hq
    refine x_istore C dL_law_2027 (by decide) rfl ?_
    refine x_aload_n C 3 dL_law_2029 rfl ?_
    refine x_aload_n C 1 dL_law_2030 rfl ?_
    refine x_iload C 5 dL_law_2031 rfl ?_
    refine x_iconst C dL_law_2033 ?_
    refine x_iadd C dL_law_2034 ?_
    refine q_sld C hX hb hbA ⟨by omega, by omega⟩ hL dL_law_2035 ?_
    refine x_aload_n C 1 dL_law_2036 rfl ?_
    refine x_iload C 5 dL_law_2037 rfl ?_
    refine x_iconst C dL_law_2039 ?_
    refine x_iadd C dL_law_2040 ?_
    refine q_sld C hX hb hbA ⟨by omega, by omega⟩ hL dL_law_2041 ?_
    refine x_if_eq (tgt := 2049) C dL_law_2042 (by decide) hq (fun hq => ?_) (fun hq => ?_)
    · refine x_iconst C dL_law_2049 ?_
      refine q_mI (rm := rmv 11 256 0 0) (K := 10) (o := 50) (As := [iV (sc xs (i + 1)), iV 0]) (rest := []) C hA hR mf_X9_cutRows lk_L_277 rfl ⟨rfl, rfl⟩ (by decide) ⟨rfl, rfl⟩ ⟨Nat.le_of_ble_eq_true rfl, Nat.le_of_ble_eq_true rfl⟩ rfl rfl (Nat.le_of_ble_eq_true rfl) (lq1 hce hc1 hc2 (by decide) (by decide)) dL_law_2050 hq (fun _ _ h => c_X9_cutRows g.l g.G rfl h) (fun rm3 wm3 _ hq => ?_)
      refine x_istore C dL_law_2053 (by decide) rfl ?_
      refine x_aload_n C 4 dL_law_2055 rfl ?_
      refine q_mI (rm := rmv 0 0 0 0) (K := 10) (o := 50) (As := []) (rest := []) C hA hR mf_X9_thrown lk_L_130 rfl ⟨rfl, rfl⟩ (by decide) ⟨rfl, rfl⟩ ⟨Nat.le_of_ble_eq_true rfl, Nat.le_of_ble_eq_true rfl⟩ rfl rfl (Nat.le_of_ble_eq_true rfl) (lq1 hce hc1 hc2 (by decide) (by decide)) dL_law_2056 hq (fun _ _ h => c_X9_thrown g.l g.G rfl h) (fun rm4 wm4 _ hq => ?_)
      refine x_iload C 1 dL_law_2059 rfl ?_
      refine x_icmp_eq (tgt := 2066) C dL_law_2061 (by decide) hq (fun hq => ?_) (fun hq => ?_)
      · refine x_iload C 1 dL_law_2066 rfl ?_
        refine x_if_ne (tgt := 2083) C dL_law_2068 (by decide) hq (fun hq => ?_) (fun hq => ?_)
        · refine x_goto (tgt := 2560) C dL_law_2083 (by decide) ?_
          refine XG.sub [2, 3, 4, 5, 6] rfl ?_
          exact K d2 _ _ (agd2) (lc hc1 (by decide)) (lc hc2 (by decide)) hq
        · refine x_aload_n C 5 dL_law_2071 rfl ?_
          refine x_iconst C dL_law_2072 ?_
          refine q_lald C (by decide) dL_law_2073 ?_
          refine x_iload C 0 dL_law_2074 rfl ?_
          refine x_i2l C dL_law_2076 ?_
          refine x_lcmp C dL_law_2077 ?_
          refine x_if_eq (tgt := 2083) C dL_law_2078 (by decide) hq (fun hq => ?_) (fun hq => ?_)
          · refine x_goto (tgt := 2560) C dL_law_2083 (by decide) ?_
            refine XG.sub [2, 3, 4, 5, 6] rfl ?_
            exact K d2 _ _ (agd2) (lc hc1 (by decide)) (lc hc2 (by decide)) hq
          · exact nomatch hq
      · exact nomatch hq
    · refine x_iconst C dL_law_2045 ?_
      refine x_goto (tgt := 2050) C dL_law_2046 (by decide) ?_
      refine q_mI (rm := rmv 11 256 0 0) (K := 10) (o := 50) (As := [iV (sc xs (i + 1)), iV 1]) (rest := []) C hA hR mf_X9_cutRows lk_L_277 rfl ⟨rfl, rfl⟩ (by decide) ⟨rfl, rfl⟩ ⟨Nat.le_of_ble_eq_true rfl, Nat.le_of_ble_eq_true rfl⟩ rfl rfl (Nat.le_of_ble_eq_true rfl) (lq1 hce hc1 hc2 (by decide) (by decide)) dL_law_2050 hq (fun _ _ h => c_X9_cutRows g.l g.G rfl h) (fun rm5 wm5 _ hq => ?_)
      refine x_istore C dL_law_2053 (by decide) rfl ?_
      refine x_aload_n C 4 dL_law_2055 rfl ?_
      refine q_mI (rm := rmv 0 0 0 0) (K := 10) (o := 50) (As := []) (rest := []) C hA hR mf_X9_thrown lk_L_130 rfl ⟨rfl, rfl⟩ (by decide) ⟨rfl, rfl⟩ ⟨Nat.le_of_ble_eq_true rfl, Nat.le_of_ble_eq_true rfl⟩ rfl rfl (Nat.le_of_ble_eq_true rfl) (lq1 hce hc1 hc2 (by decide) (by decide)) dL_law_2056 hq (fun _ _ h => c_X9_thrown g.l g.G rfl h) (fun rm6 wm6 _ hq => ?_)
      refine x_iload C 1 dL_law_2059 rfl ?_
      refine x_icmp_eq (tgt := 2066) C dL_law_2061 (by decide) hq (fun hq => ?_) (fun hq => ?_)
      · refine x_iload C 1 dL_law_2066 rfl ?_
        refine x_if_ne (tgt := 2083) C dL_law_2068 (by decide) hq (fun hq => ?_) (fun hq => ?_)
        · refine x_goto (tgt := 2560) C dL_law_2083 (by decide) ?_
          refine XG.sub [2, 3, 4, 5, 6] rfl ?_
          exact K d2 _ _ (agd2) (lc hc1 (by decide)) (lc hc2 (by decide)) hq
        · refine x_aload_n C 5 dL_law_2071 rfl ?_
          refine x_iconst C dL_law_2072 ?_
          refine q_lald C (by decide) dL_law_2073 ?_
          refine x_iload C 0 dL_law_2074 rfl ?_
          refine x_i2l C dL_law_2076 ?_
          refine x_lcmp C dL_law_2077 ?_
          refine x_if_eq (tgt := 2083) C dL_law_2078 (by decide) hq (fun hq => ?_) (fun hq => ?_)
          · refine x_goto (tgt := 2560) C dL_law_2083 (by decide) ?_
            refine XG.sub [2, 3, 4, 5, 6] rfl ?_
            exact K d2 _ _ (agd2) (lc hc1 (by decide)) (lc hc2 (by decide)) hq
          · exact nomatch hq
      · exact nomatch hq
  · refine x_iconst C dL_law_2018 ?_
    refine x_goto (tgt := 2023) C dL_law_2019 (by decide) ?_
    refine x_aload_n C 3 dL_law_2023 rfl ?_
    refine q_wr (mc' := 13) (ms' := 840) (rm := rmv 8 161 13 840) (As := [.ref (d.ad 1), iV (sc xs (i + 1)), iV 1, .ref (d.ad 34)]) (rest := []) C hA hR hNC mfL_cutRows lk_L_274 ⟨rfl, rfl⟩ ⟨Nat.le_of_ble_eq_true rfl, Nat.le_of_ble_eq_true rfl⟩ rfl rfl (Nat.le_of_ble_eq_true rfl) (lq hce (by decide) (by decide)) dL_law_2024 hq (fun _ h => c_L_cutRows g.l g.G hfl h) (fun z7 d8 _ hq agd8 hn hc1 hc2 => ?_)
    have e1 := agq1 agd8; have e3 := agq3 agd8; rw [e1, e3]; rw [← hn] at hq
    refine x_istore C dL_law_2027 (by decide) rfl ?_
    refine x_aload_n C 3 dL_law_2029 rfl ?_
    refine x_aload_n C 1 dL_law_2030 rfl ?_
    refine x_iload C 5 dL_law_2031 rfl ?_
    refine x_iconst C dL_law_2033 ?_
    refine x_iadd C dL_law_2034 ?_
    refine q_sld C hX hb hbA ⟨by omega, by omega⟩ hL dL_law_2035 ?_
    refine x_aload_n C 1 dL_law_2036 rfl ?_
    refine x_iload C 5 dL_law_2037 rfl ?_
    refine x_iconst C dL_law_2039 ?_
    refine x_iadd C dL_law_2040 ?_
    refine q_sld C hX hb hbA ⟨by omega, by omega⟩ hL dL_law_2041 ?_
    refine x_if_eq (tgt := 2049) C dL_law_2042 (by decide) hq (fun hq => ?_) (fun hq => ?_)
    · refine x_iconst C dL_law_2049 ?_
      refine q_mI (rm := rmv 11 256 0 0) (K := 10) (o := 50) (As := [iV (sc xs (i + 1)), iV 0]) (rest := []) C hA hR mf_X9_cutRows lk_L_277 rfl ⟨rfl, rfl⟩ (by decide) ⟨rfl, rfl⟩ ⟨Nat.le_of_ble_eq_true rfl, Nat.le_of_ble_eq_true rfl⟩ rfl rfl (Nat.le_of_ble_eq_true rfl) (lq1 hce hc1 hc2 (by decide) (by decide)) dL_law_2050 hq (fun _ _ h => c_X9_cutRows g.l g.G rfl h) (fun rm9 wm9 _ hq => ?_)
      refine x_istore C dL_law_2053 (by decide) rfl ?_
      refine x_aload_n C 4 dL_law_2055 rfl ?_
      refine q_mI (rm := rmv 0 0 0 0) (K := 10) (o := 50) (As := []) (rest := []) C hA hR mf_X9_thrown lk_L_130 rfl ⟨rfl, rfl⟩ (by decide) ⟨rfl, rfl⟩ ⟨Nat.le_of_ble_eq_true rfl, Nat.le_of_ble_eq_true rfl⟩ rfl rfl (Nat.le_of_ble_eq_true rfl) (lq1 hce hc1 hc2 (by decide) (by decide)) dL_law_2056 hq (fun _ _ h => c_X9_thrown g.l g.G rfl h) (fun rm10 wm10 _ hq => ?_)
      refine x_iload C 1 dL_law_2059 rfl ?_
      refine x_icmp_eq (tgt := 2066) C dL_law_2061 (by decide) hq (fun hq => ?_) (fun hq => ?_)
      · refine x_iload C 1 dL_law_2066 rfl ?_
        refine x_if_ne (tgt := 2083) C dL_law_2068 (by decide) hq (fun hq => ?_) (fun hq => ?_)
        · refine x_goto (tgt := 2560) C dL_law_2083 (by decide) ?_
          refine XG.sub [2, 3, 4, 5, 6] rfl ?_
          exact K d8 _ _ (agd8) (lc hc1 (by decide)) (lc hc2 (by decide)) hq
        · refine x_aload_n C 5 dL_law_2071 rfl ?_
          refine x_iconst C dL_law_2072 ?_
          refine q_lald C (by decide) dL_law_2073 ?_
          refine x_iload C 0 dL_law_2074 rfl ?_
          refine x_i2l C dL_law_2076 ?_
          refine x_lcmp C dL_law_2077 ?_
          refine x_if_eq (tgt := 2083) C dL_law_2078 (by decide) hq (fun hq => ?_) (fun hq => ?_)
          · refine x_goto (tgt := 2560) C dL_law_2083 (by decide) ?_
            refine XG.sub [2, 3, 4, 5, 6] rfl ?_
            exact K d8 _ _ (agd8) (lc hc1 (by decide)) (lc hc2 (by decide)) hq
          · exact nomatch hq
      · exact nomatch hq
    · refine x_iconst C dL_law_2045 ?_
      refine x_goto (tgt := 2050) C dL_law_2046 (by decide) ?_
      refine q_mI (rm := rmv 11 256 0 0) (K := 10) (o := 50) (As := [iV (sc xs (i + 1)), iV 1]) (rest := []) C hA hR mf_X9_cutRows lk_L_277 rfl ⟨rfl, rfl⟩ (by decide) ⟨rfl, rfl⟩ ⟨Nat.le_of_ble_eq_true rfl, Nat.le_of_ble_eq_true rfl⟩ rfl rfl (Nat.le_of_ble_eq_true rfl) (lq1 hce hc1 hc2 (by decide) (by decide)) dL_law_2050 hq (fun _ _ h => c_X9_cutRows g.l g.G rfl h) (fun rm11 wm11 _ hq => ?_)
      refine x_istore C dL_law_2053 (by decide) rfl ?_
      refine x_aload_n C 4 dL_law_2055 rfl ?_
      refine q_mI (rm := rmv 0 0 0 0) (K := 10) (o := 50) (As := []) (rest := []) C hA hR mf_X9_thrown lk_L_130 rfl ⟨rfl, rfl⟩ (by decide) ⟨rfl, rfl⟩ ⟨Nat.le_of_ble_eq_true rfl, Nat.le_of_ble_eq_true rfl⟩ rfl rfl (Nat.le_of_ble_eq_true rfl) (lq1 hce hc1 hc2 (by decide) (by decide)) dL_law_2056 hq (fun _ _ h => c_X9_thrown g.l g.G rfl h) (fun rm12 wm12 _ hq => ?_)
      refine x_iload C 1 dL_law_2059 rfl ?_
      refine x_icmp_eq (tgt := 2066) C dL_law_2061 (by decide) hq (fun hq => ?_) (fun hq => ?_)
      · refine x_iload C 1 dL_law_2066 rfl ?_
        refine x_if_ne (tgt := 2083) C dL_law_2068 (by decide) hq (fun hq => ?_) (fun hq => ?_)
        · refine x_goto (tgt := 2560) C dL_law_2083 (by decide) ?_
          refine XG.sub [2, 3, 4, 5, 6] rfl ?_
          exact K d8 _ _ (agd8) (lc hc1 (by decide)) (lc hc2 (by decide)) hq
        · refine x_aload_n C 5 dL_law_2071 rfl ?_
          refine x_iconst C dL_law_2072 ?_
          refine q_lald C (by decide) dL_law_2073 ?_
          refine x_iload C 0 dL_law_2074 rfl ?_
          refine x_i2l C dL_law_2076 ?_
          refine x_lcmp C dL_law_2077 ?_
          refine x_if_eq (tgt := 2083) C dL_law_2078 (by decide) hq (fun hq => ?_) (fun hq => ?_)
          · refine x_goto (tgt := 2560) C dL_law_2083 (by decide) ?_
            refine XG.sub [2, 3, 4, 5, 6] rfl ?_
            exact K d8 _ _ (agd8) (lc hc1 (by decide)) (lc hc2 (by decide)) hq
          · exact nomatch hq
      · exact nomatch hq
theorem L_op_41 {g : Cx} {ret9 : Option FieldType} (C : CX g cL_law 9 ret9 RL) (hfl : g.l.stackTraces = false) (hA : ∀ q : Nat, g.s.heap.size ≤ q → g.A q) (hR : g.R = room_1) (hNC : NC3 g.s) {b L : Nat} {xs : Nat → Int32} (hX : va_X b L xs g.s g.s.heap) (hb : b < g.s.heap.size) (hbA : ¬ g.A b) (hL : L ≤ 3072) {i : Int} (hi : 0 ≤ i ∧ i + 5 < L) {d : Dl} {adM : Nat → Nat} {wC wM : Wd} (hce : d.ce + 15 ≤ MCL ∧ d.so + 852 ≤ MSL) {res : Nat × Wd × Wd} (hq : p_op_41 xs i d.na wC wM = some res)
    (K : ∀ (d1 : Dl) (w1 w2 : Wd), AG d.na d.ad d1 → d1.ce ≤ d.ce + 15 → d1.so ≤ d.so + 852 → some (d1.na, w1, w2) = some res → XG g d1 (hQ g d1 adM w1 w2) [(0, .ref b), (1, .ref (d1.ad 1)), (2, .ref (adM 50)), (3, .ref (d1.ad 34)), (4, iV i)] [] 2560) :
    XG g d (hQ g d adM wC wM) [(0, .ref b), (1, .ref (d.ad 1)), (2, .ref (adM 50)), (3, .ref (d.ad 34)), (4, iV i)] [] 2086 := by
  unfold p_op_41 at hq
  refine x_aload_n C 1 dL_law_2086 rfl ?_
  refine x_aload_n C 0 dL_law_2087 rfl ?_
  refine x_iload C 4 dL_law_2088 rfl ?_
  refine x_iconst C dL_law_2090 ?_
  refine x_iadd C dL_law_2091 ?_
  refine q_sld C hX hb hbA ⟨by omega, by omega⟩ hL dL_law_2092 ?_
  refine x_aload_n C 3 dL_law_2093 rfl ?_
  refine q_wr (mc' := 12) (ms' := 834) (rm := rmv 7 163 12 834) (As := [.ref (d.ad 1), iV (sc xs (i + 1)), .ref (d.ad 34)]) (rest := []) C hA hR hNC mfL_carve lk_L_278 ⟨rfl, rfl⟩ ⟨Nat.le_of_ble_eq_true rfl, Nat.le_of_ble_eq_true rfl⟩ rfl rfl (Nat.le_of_ble_eq_true rfl) (lq hce (by decide) (by decide)) dL_law_2094 hq (fun _ h => c_L_carve g.l g.G hfl h) (fun z1 d2 _ hq agd2 hn hc1 hc2 => ?_)
  have e1 := agq1 agd2; have e3 := agq3 agd2; rw [e1, e3]; rw [← hn] at hq
  refine x_istore C dL_law_2097 (by decide) rfl ?_
  refine x_aload_n C 3 dL_law_2099 rfl ?_
  refine x_aload_n C 1 dL_law_2100 rfl ?_
  refine x_iload C 5 dL_law_2101 rfl ?_
  refine x_iconst C dL_law_2103 ?_
  refine x_iadd C dL_law_2104 ?_
  refine q_sld C hX hb hbA ⟨by omega, by omega⟩ hL dL_law_2105 ?_
  refine q_mI (rm := rmv 9 213 0 0) (K := 10) (o := 50) (As := [iV (sc xs (i + 1))]) (rest := []) C hA hR mf_X9_carve lk_L_280 rfl ⟨rfl, rfl⟩ (by decide) ⟨rfl, rfl⟩ ⟨Nat.le_of_ble_eq_true rfl, Nat.le_of_ble_eq_true rfl⟩ rfl rfl (Nat.le_of_ble_eq_true rfl) (lq1 hce hc1 hc2 (by decide) (by decide)) dL_law_2106 hq (fun _ _ h => c_X9_carve g.l g.G rfl h) (fun rm3 wm3 _ hq => ?_)
  refine x_istore C dL_law_2109 (by decide) rfl ?_
  refine x_aload_n C 4 dL_law_2111 rfl ?_
  refine q_mI (rm := rmv 0 0 0 0) (K := 10) (o := 50) (As := []) (rest := []) C hA hR mf_X9_thrown lk_L_130 rfl ⟨rfl, rfl⟩ (by decide) ⟨rfl, rfl⟩ ⟨Nat.le_of_ble_eq_true rfl, Nat.le_of_ble_eq_true rfl⟩ rfl rfl (Nat.le_of_ble_eq_true rfl) (lq1 hce hc1 hc2 (by decide) (by decide)) dL_law_2112 hq (fun _ _ h => c_X9_thrown g.l g.G rfl h) (fun rm4 wm4 _ hq => ?_)
  refine x_iload C 1 dL_law_2115 rfl ?_
  refine x_icmp_eq (tgt := 2122) C dL_law_2117 (by decide) hq (fun hq => ?_) (fun hq => ?_)
  · refine x_iload C 1 dL_law_2122 rfl ?_
    refine x_if_ne (tgt := 2139) C dL_law_2124 (by decide) hq (fun hq => ?_) (fun hq => ?_)
    · refine x_goto (tgt := 2560) C dL_law_2139 (by decide) ?_
      refine XG.sub [2, 3, 4, 5, 6] rfl ?_
      exact K d2 _ _ (agd2) (lc hc1 (by decide)) (lc hc2 (by decide)) hq
    · refine x_aload_n C 5 dL_law_2127 rfl ?_
      refine x_iconst C dL_law_2128 ?_
      refine q_lald C (by decide) dL_law_2129 ?_
      refine x_iload C 0 dL_law_2130 rfl ?_
      refine x_i2l C dL_law_2132 ?_
      refine x_lcmp C dL_law_2133 ?_
      refine x_if_eq (tgt := 2139) C dL_law_2134 (by decide) hq (fun hq => ?_) (fun hq => ?_)
      · refine x_goto (tgt := 2560) C dL_law_2139 (by decide) ?_
        refine XG.sub [2, 3, 4, 5, 6] rfl ?_
        exact K d2 _ _ (agd2) (lc hc1 (by decide)) (lc hc2 (by decide)) hq
      · exact nomatch hq
  · exact nomatch hq
theorem L_op_42 {g : Cx} {ret9 : Option FieldType} (C : CX g cL_law 9 ret9 RL) (hfl : g.l.stackTraces = false) (hA : ∀ q : Nat, g.s.heap.size ≤ q → g.A q) (hR : g.R = room_1) (hNC : NC3 g.s) {b L : Nat} {xs : Nat → Int32} (hX : va_X b L xs g.s g.s.heap) (hb : b < g.s.heap.size) (hbA : ¬ g.A b) (hL : L ≤ 3072) {i : Int} (hi : 0 ≤ i ∧ i + 5 < L) {d : Dl} {adM : Nat → Nat} {wC wM : Wd} (hce : d.ce + 15 ≤ MCL ∧ d.so + 852 ≤ MSL) {res : Nat × Wd × Wd} (hq : p_op_42 xs i d.na wC wM = some res)
    (K : ∀ (d1 : Dl) (w1 w2 : Wd), AG d.na d.ad d1 → d1.ce ≤ d.ce + 15 → d1.so ≤ d.so + 852 → some (d1.na, w1, w2) = some res → XG g d1 (hQ g d1 adM w1 w2) [(0, .ref b), (1, .ref (d1.ad 1)), (2, .ref (adM 50)), (3, .ref (d1.ad 34)), (4, iV i)] [] 2560) :
    XG g d (hQ g d adM wC wM) [(0, .ref b), (1, .ref (d.ad 1)), (2, .ref (adM 50)), (3, .ref (d.ad 34)), (4, iV i)] [] 2142 := by
  unfold p_op_42 at hq
  refine x_aload_n C 1 dL_law_2142 rfl ?_
  obtain ⟨z1, hz1, hq⟩ := Option.bind_eq_some_iff.mp hq
  obtain ⟨rz1, ez1, hq⟩ := inlO_some hq
  refine q_cG (mc' := 12) (ms' := 834) (rm := rmv 6 139 12 834) (K := 9) (o := 1) (As := []) (rest := []) (r0 := rz1) (na1 := z1.2.1) (w1 := z1.2.2) C hA hR mf_X8_sharpen lk_L_281 rfl ⟨rfl, rfl⟩ (by decide) ⟨rfl, rfl⟩ ⟨Nat.le_of_ble_eq_true rfl, Nat.le_of_ble_eq_true rfl⟩ rfl rfl (Nat.le_of_ble_eq_true rfl) (lq hce (by decide) (by decide)) dL_law_2143 (by rw [← ez1]; exact c_X8_sharpen g.l g.G hfl rfl hz1) (fun d2 agd2 hn hc1 hc2 => ?_)
  have e1 := agq1 agd2; have e3 := agq3 agd2; rw [e1, e3]; rw [← hn] at hq
  refine x_aload_n C 2 dL_law_2146 rfl ?_
  refine q_mI (rm := rmv 2 42 0 0) (K := 10) (o := 50) (As := []) (rest := [iV rz1]) C hA hR mf_X9_sharpen lk_L_284 rfl ⟨rfl, rfl⟩ (by decide) ⟨rfl, rfl⟩ ⟨Nat.le_of_ble_eq_true rfl, Nat.le_of_ble_eq_true rfl⟩ rfl rfl (Nat.le_of_ble_eq_true rfl) (lq1 hce hc1 hc2 (by decide) (by decide)) dL_law_2147 hq (fun _ _ h => c_X9_sharpen g.l g.G rfl h) (fun rm3 wm3 _ hq => ?_)
  refine x_icmp_eq (tgt := 2560) C dL_law_2150 (by decide) hq (fun hq => ?_) (fun hq => ?_)
  · exact K d2 _ _ (agd2) (lc hc1 (by decide)) (lc hc2 (by decide)) hq
  · exact nomatch hq
theorem L_op_43 {g : Cx} {ret9 : Option FieldType} (C : CX g cL_law 9 ret9 RL) (hfl : g.l.stackTraces = false) (hA : ∀ q : Nat, g.s.heap.size ≤ q → g.A q) (hR : g.R = room_1) (hNC : NC3 g.s) {b L : Nat} {xs : Nat → Int32} (hX : va_X b L xs g.s g.s.heap) (hb : b < g.s.heap.size) (hbA : ¬ g.A b) (hL : L ≤ 3072) {i : Int} (hi : 0 ≤ i ∧ i + 5 < L) {d : Dl} {adM : Nat → Nat} {wC wM : Wd} (hce : d.ce + 15 ≤ MCL ∧ d.so + 852 ≤ MSL) {res : Nat × Wd × Wd} (hq : p_op_43 xs i d.na wC wM = some res)
    (K : ∀ (d1 : Dl) (w1 w2 : Wd), AG d.na d.ad d1 → d1.ce ≤ d.ce + 15 → d1.so ≤ d.so + 852 → some (d1.na, w1, w2) = some res → XG g d1 (hQ g d1 adM w1 w2) [(0, .ref b), (1, .ref (d1.ad 1)), (2, .ref (adM 50)), (3, .ref (d1.ad 34)), (4, iV i)] [] 2560) :
    XG g d (hQ g d adM wC wM) [(0, .ref b), (1, .ref (d.ad 1)), (2, .ref (adM 50)), (3, .ref (d.ad 34)), (4, iV i)] [] 2155 := by
  unfold p_op_43 at hq
  refine x_aload_n C 1 dL_law_2155 rfl ?_
  refine x_aload_n C 0 dL_law_2156 rfl ?_
  refine x_iload C 4 dL_law_2157 rfl ?_
  refine x_iconst C dL_law_2159 ?_
  refine x_iadd C dL_law_2160 ?_
  refine q_sld C hX hb hbA ⟨by omega, by omega⟩ hL dL_law_2161 ?_
  refine x_aload_n C 0 dL_law_2162 rfl ?_
  refine x_iload C 4 dL_law_2163 rfl ?_
  refine x_iconst C dL_law_2165 ?_
  refine x_iadd C dL_law_2166 ?_
  refine q_sld C hX hb hbA ⟨by omega, by omega⟩ hL dL_law_2167 ?_
  refine x_aload_n C 3 dL_law_2168 rfl ?_
  refine q_wr (mc' := 12) (ms' := 834) (rm := rmv 7 162 12 834) (As := [.ref (d.ad 1), iV (sc xs (i + 1)), iV (sc xs (i + 2)), .ref (d.ad 34)]) (rest := []) C hA hR hNC mfL_setChisel lk_L_285 ⟨rfl, rfl⟩ ⟨Nat.le_of_ble_eq_true rfl, Nat.le_of_ble_eq_true rfl⟩ rfl rfl (Nat.le_of_ble_eq_true rfl) (lq hce (by decide) (by decide)) dL_law_2169 hq (fun _ h => c_L_setChisel g.l g.G hfl h) (fun z1 d2 _ hq agd2 hn hc1 hc2 => ?_)
  have e1 := agq1 agd2; have e3 := agq3 agd2; rw [e1, e3]; rw [← hn] at hq
  refine x_istore C dL_law_2172 (by decide) rfl ?_
  refine x_aload_n C 3 dL_law_2174 rfl ?_
  refine x_aload_n C 1 dL_law_2175 rfl ?_
  refine x_iload C 5 dL_law_2176 rfl ?_
  refine x_iconst C dL_law_2178 ?_
  refine x_iadd C dL_law_2179 ?_
  refine q_sld C hX hb hbA ⟨by omega, by omega⟩ hL dL_law_2180 ?_
  refine x_aload_n C 1 dL_law_2181 rfl ?_
  refine x_iload C 5 dL_law_2182 rfl ?_
  refine x_iconst C dL_law_2184 ?_
  refine x_iadd C dL_law_2185 ?_
  refine q_sld C hX hb hbA ⟨by omega, by omega⟩ hL dL_law_2186 ?_
  refine q_mI (rm := rmv 2 45 0 0) (K := 10) (o := 50) (As := [iV (sc xs (i + 1)), iV (sc xs (i + 2))]) (rest := []) C hA hR mf_X9_setChisel lk_L_287 rfl ⟨rfl, rfl⟩ (by decide) ⟨rfl, rfl⟩ ⟨Nat.le_of_ble_eq_true rfl, Nat.le_of_ble_eq_true rfl⟩ rfl rfl (Nat.le_of_ble_eq_true rfl) (lq1 hce hc1 hc2 (by decide) (by decide)) dL_law_2187 hq (fun _ _ h => c_X9_setChisel g.l g.G rfl h) (fun rm3 wm3 _ hq => ?_)
  refine x_istore C dL_law_2190 (by decide) rfl ?_
  refine x_aload_n C 4 dL_law_2192 rfl ?_
  refine q_mI (rm := rmv 0 0 0 0) (K := 10) (o := 50) (As := []) (rest := []) C hA hR mf_X9_thrown lk_L_130 rfl ⟨rfl, rfl⟩ (by decide) ⟨rfl, rfl⟩ ⟨Nat.le_of_ble_eq_true rfl, Nat.le_of_ble_eq_true rfl⟩ rfl rfl (Nat.le_of_ble_eq_true rfl) (lq1 hce hc1 hc2 (by decide) (by decide)) dL_law_2193 hq (fun _ _ h => c_X9_thrown g.l g.G rfl h) (fun rm4 wm4 _ hq => ?_)
  refine x_iload C 1 dL_law_2196 rfl ?_
  refine x_icmp_eq (tgt := 2203) C dL_law_2198 (by decide) hq (fun hq => ?_) (fun hq => ?_)
  · refine x_iload C 1 dL_law_2203 rfl ?_
    refine x_if_ne (tgt := 2220) C dL_law_2205 (by decide) hq (fun hq => ?_) (fun hq => ?_)
    · refine x_goto (tgt := 2560) C dL_law_2220 (by decide) ?_
      refine XG.sub [2, 3, 4, 5, 6] rfl ?_
      exact K d2 _ _ (agd2) (lc hc1 (by decide)) (lc hc2 (by decide)) hq
    · refine x_aload_n C 5 dL_law_2208 rfl ?_
      refine x_iconst C dL_law_2209 ?_
      refine q_lald C (by decide) dL_law_2210 ?_
      refine x_iload C 0 dL_law_2211 rfl ?_
      refine x_i2l C dL_law_2213 ?_
      refine x_lcmp C dL_law_2214 ?_
      refine x_if_eq (tgt := 2220) C dL_law_2215 (by decide) hq (fun hq => ?_) (fun hq => ?_)
      · refine x_goto (tgt := 2560) C dL_law_2220 (by decide) ?_
        refine XG.sub [2, 3, 4, 5, 6] rfl ?_
        exact K d2 _ _ (agd2) (lc hc1 (by decide)) (lc hc2 (by decide)) hq
      · exact nomatch hq
  · exact nomatch hq
theorem L_op_44 {g : Cx} {ret9 : Option FieldType} (C : CX g cL_law 9 ret9 RL) (hfl : g.l.stackTraces = false) (hA : ∀ q : Nat, g.s.heap.size ≤ q → g.A q) (hR : g.R = room_1) (hNC : NC3 g.s) {b L : Nat} {xs : Nat → Int32} (hX : va_X b L xs g.s g.s.heap) (hb : b < g.s.heap.size) (hbA : ¬ g.A b) (hL : L ≤ 3072) {i : Int} (hi : 0 ≤ i ∧ i + 5 < L) {d : Dl} {adM : Nat → Nat} {wC wM : Wd} (hce : d.ce + 15 ≤ MCL ∧ d.so + 852 ≤ MSL) {res : Nat × Wd × Wd} (hq : p_op_44 xs i d.na wC wM = some res)
    (K : ∀ (d1 : Dl) (w1 w2 : Wd), AG d.na d.ad d1 → d1.ce ≤ d.ce + 15 → d1.so ≤ d.so + 852 → some (d1.na, w1, w2) = some res → XG g d1 (hQ g d1 adM w1 w2) [(0, .ref b), (1, .ref (d1.ad 1)), (2, .ref (adM 50)), (3, .ref (d1.ad 34)), (4, iV i)] [] 2560) :
    XG g d (hQ g d adM wC wM) [(0, .ref b), (1, .ref (d.ad 1)), (2, .ref (adM 50)), (3, .ref (d.ad 34)), (4, iV i)] [] 2223 := by
  unfold p_op_44 at hq
  refine x_aload_n C 1 dL_law_2223 rfl ?_
  refine x_aload_n C 0 dL_law_2224 rfl ?_
  refine x_iload C 4 dL_law_2225 rfl ?_
  refine x_iconst C dL_law_2227 ?_
  refine x_iadd C dL_law_2228 ?_
  refine q_sld C hX hb hbA ⟨by omega, by omega⟩ hL dL_law_2229 ?_
  refine x_aload_n C 3 dL_law_2230 rfl ?_
  refine q_wr (mc' := 13) (ms' := 840) (rm := rmv 8 132 13 840) (As := [.ref (d.ad 1), iV (sc xs (i + 1)), .ref (d.ad 34)]) (rest := []) C hA hR hNC mfL_keep lk_L_288 ⟨rfl, rfl⟩ ⟨Nat.le_of_ble_eq_true rfl, Nat.le_of_ble_eq_true rfl⟩ rfl rfl (Nat.le_of_ble_eq_true rfl) (lq hce (by decide) (by decide)) dL_law_2231 hq (fun _ h => c_L_keep g.l g.G hfl h) (fun z1 d2 _ hq agd2 hn hc1 hc2 => ?_)
  have e1 := agq1 agd2; have e3 := agq3 agd2; rw [e1, e3]; rw [← hn] at hq
  refine x_istore C dL_law_2234 (by decide) rfl ?_
  refine x_aload_n C 3 dL_law_2236 rfl ?_
  refine x_aload_n C 1 dL_law_2237 rfl ?_
  refine x_iload C 5 dL_law_2238 rfl ?_
  refine x_iconst C dL_law_2240 ?_
  refine x_iadd C dL_law_2241 ?_
  refine q_sld C hX hb hbA ⟨by omega, by omega⟩ hL dL_law_2242 ?_
  refine q_mI (rm := rmv 2 45 0 0) (K := 10) (o := 50) (As := [iV (sc xs (i + 1))]) (rest := []) C hA hR mf_X9_keep lk_L_290 rfl ⟨rfl, rfl⟩ (by decide) ⟨rfl, rfl⟩ ⟨Nat.le_of_ble_eq_true rfl, Nat.le_of_ble_eq_true rfl⟩ rfl rfl (Nat.le_of_ble_eq_true rfl) (lq1 hce hc1 hc2 (by decide) (by decide)) dL_law_2243 hq (fun _ _ h => c_X9_keep g.l g.G rfl h) (fun rm3 wm3 _ hq => ?_)
  refine x_istore C dL_law_2246 (by decide) rfl ?_
  refine x_aload_n C 4 dL_law_2248 rfl ?_
  refine q_mI (rm := rmv 0 0 0 0) (K := 10) (o := 50) (As := []) (rest := []) C hA hR mf_X9_thrown lk_L_130 rfl ⟨rfl, rfl⟩ (by decide) ⟨rfl, rfl⟩ ⟨Nat.le_of_ble_eq_true rfl, Nat.le_of_ble_eq_true rfl⟩ rfl rfl (Nat.le_of_ble_eq_true rfl) (lq1 hce hc1 hc2 (by decide) (by decide)) dL_law_2249 hq (fun _ _ h => c_X9_thrown g.l g.G rfl h) (fun rm4 wm4 _ hq => ?_)
  refine x_iload C 1 dL_law_2252 rfl ?_
  refine x_icmp_eq (tgt := 2259) C dL_law_2254 (by decide) hq (fun hq => ?_) (fun hq => ?_)
  · refine x_iload C 1 dL_law_2259 rfl ?_
    refine x_if_ne (tgt := 2276) C dL_law_2261 (by decide) hq (fun hq => ?_) (fun hq => ?_)
    · refine x_goto (tgt := 2560) C dL_law_2276 (by decide) ?_
      refine XG.sub [2, 3, 4, 5, 6] rfl ?_
      exact K d2 _ _ (agd2) (lc hc1 (by decide)) (lc hc2 (by decide)) hq
    · refine x_aload_n C 5 dL_law_2264 rfl ?_
      refine x_iconst C dL_law_2265 ?_
      refine q_lald C (by decide) dL_law_2266 ?_
      refine x_iload C 0 dL_law_2267 rfl ?_
      refine x_i2l C dL_law_2269 ?_
      refine x_lcmp C dL_law_2270 ?_
      refine x_if_eq (tgt := 2276) C dL_law_2271 (by decide) hq (fun hq => ?_) (fun hq => ?_)
      · refine x_goto (tgt := 2560) C dL_law_2276 (by decide) ?_
        refine XG.sub [2, 3, 4, 5, 6] rfl ?_
        exact K d2 _ _ (agd2) (lc hc1 (by decide)) (lc hc2 (by decide)) hq
      · exact nomatch hq
  · exact nomatch hq
theorem L_op_45 {g : Cx} {ret9 : Option FieldType} (C : CX g cL_law 9 ret9 RL) (hfl : g.l.stackTraces = false) (hA : ∀ q : Nat, g.s.heap.size ≤ q → g.A q) (hR : g.R = room_1) (hNC : NC3 g.s) {b L : Nat} {xs : Nat → Int32} (hX : va_X b L xs g.s g.s.heap) (hb : b < g.s.heap.size) (hbA : ¬ g.A b) (hL : L ≤ 3072) {i : Int} (hi : 0 ≤ i ∧ i + 5 < L) {d : Dl} {adM : Nat → Nat} {wC wM : Wd} (hce : d.ce + 15 ≤ MCL ∧ d.so + 852 ≤ MSL) {res : Nat × Wd × Wd} (hq : p_op_45 xs i d.na wC wM = some res)
    (K : ∀ (d1 : Dl) (w1 w2 : Wd), AG d.na d.ad d1 → d1.ce ≤ d.ce + 15 → d1.so ≤ d.so + 852 → some (d1.na, w1, w2) = some res → XG g d1 (hQ g d1 adM w1 w2) [(0, .ref b), (1, .ref (d1.ad 1)), (2, .ref (adM 50)), (3, .ref (d1.ad 34)), (4, iV i)] [] 2560) :
    XG g d (hQ g d adM wC wM) [(0, .ref b), (1, .ref (d.ad 1)), (2, .ref (adM 50)), (3, .ref (d.ad 34)), (4, iV i)] [] 2279 := by
  unfold p_op_45 at hq
  refine x_aload_n C 1 dL_law_2279 rfl ?_
  refine x_aload_n C 0 dL_law_2280 rfl ?_
  refine x_iload C 4 dL_law_2281 rfl ?_
  refine x_iconst C dL_law_2283 ?_
  refine x_iadd C dL_law_2284 ?_
  refine q_sld C hX hb hbA ⟨by omega, by omega⟩ hL dL_law_2285 ?_
  refine x_aload_n C 3 dL_law_2286 rfl ?_
  refine q_wr (mc' := 13) (ms' := 840) (rm := rmv 8 161 13 840) (As := [.ref (d.ad 1), iV (sc xs (i + 1)), .ref (d.ad 34)]) (rest := []) C hA hR hNC mfL_restore lk_L_291 ⟨rfl, rfl⟩ ⟨Nat.le_of_ble_eq_true rfl, Nat.le_of_ble_eq_true rfl⟩ rfl rfl (Nat.le_of_ble_eq_true rfl) (lq hce (by decide) (by decide)) dL_law_2287 hq (fun _ h => c_L_restore g.l g.G hfl h) (fun z1 d2 _ hq agd2 hn hc1 hc2 => ?_)
  have e1 := agq1 agd2; have e3 := agq3 agd2; rw [e1, e3]; rw [← hn] at hq
  refine x_istore C dL_law_2290 (by decide) rfl ?_
  refine x_aload_n C 3 dL_law_2292 rfl ?_
  refine x_aload_n C 1 dL_law_2293 rfl ?_
  refine x_iload C 5 dL_law_2294 rfl ?_
  refine x_iconst C dL_law_2296 ?_
  refine x_iadd C dL_law_2297 ?_
  refine q_sld C hX hb hbA ⟨by omega, by omega⟩ hL dL_law_2298 ?_
  refine q_mI (rm := rmv 2 45 0 0) (K := 10) (o := 50) (As := [iV (sc xs (i + 1))]) (rest := []) C hA hR mf_X9_restore lk_L_293 rfl ⟨rfl, rfl⟩ (by decide) ⟨rfl, rfl⟩ ⟨Nat.le_of_ble_eq_true rfl, Nat.le_of_ble_eq_true rfl⟩ rfl rfl (Nat.le_of_ble_eq_true rfl) (lq1 hce hc1 hc2 (by decide) (by decide)) dL_law_2299 hq (fun _ _ h => c_X9_restore g.l g.G rfl h) (fun rm3 wm3 _ hq => ?_)
  refine x_istore C dL_law_2302 (by decide) rfl ?_
  refine x_aload_n C 4 dL_law_2304 rfl ?_
  refine q_mI (rm := rmv 0 0 0 0) (K := 10) (o := 50) (As := []) (rest := []) C hA hR mf_X9_thrown lk_L_130 rfl ⟨rfl, rfl⟩ (by decide) ⟨rfl, rfl⟩ ⟨Nat.le_of_ble_eq_true rfl, Nat.le_of_ble_eq_true rfl⟩ rfl rfl (Nat.le_of_ble_eq_true rfl) (lq1 hce hc1 hc2 (by decide) (by decide)) dL_law_2305 hq (fun _ _ h => c_X9_thrown g.l g.G rfl h) (fun rm4 wm4 _ hq => ?_)
  refine x_iload C 1 dL_law_2308 rfl ?_
  refine x_icmp_eq (tgt := 2315) C dL_law_2310 (by decide) hq (fun hq => ?_) (fun hq => ?_)
  · refine x_iload C 1 dL_law_2315 rfl ?_
    refine x_if_ne (tgt := 2332) C dL_law_2317 (by decide) hq (fun hq => ?_) (fun hq => ?_)
    · refine x_goto (tgt := 2560) C dL_law_2332 (by decide) ?_
      refine XG.sub [2, 3, 4, 5, 6] rfl ?_
      exact K d2 _ _ (agd2) (lc hc1 (by decide)) (lc hc2 (by decide)) hq
    · refine x_aload_n C 5 dL_law_2320 rfl ?_
      refine x_iconst C dL_law_2321 ?_
      refine q_lald C (by decide) dL_law_2322 ?_
      refine x_iload C 0 dL_law_2323 rfl ?_
      refine x_i2l C dL_law_2325 ?_
      refine x_lcmp C dL_law_2326 ?_
      refine x_if_eq (tgt := 2332) C dL_law_2327 (by decide) hq (fun hq => ?_) (fun hq => ?_)
      · refine x_goto (tgt := 2560) C dL_law_2332 (by decide) ?_
        refine XG.sub [2, 3, 4, 5, 6] rfl ?_
        exact K d2 _ _ (agd2) (lc hc1 (by decide)) (lc hc2 (by decide)) hq
      · exact nomatch hq
  · exact nomatch hq
theorem L_op_46 {g : Cx} {ret9 : Option FieldType} (C : CX g cL_law 9 ret9 RL) (hfl : g.l.stackTraces = false) (hA : ∀ q : Nat, g.s.heap.size ≤ q → g.A q) (hR : g.R = room_1) (hNC : NC3 g.s) {b L : Nat} {xs : Nat → Int32} (hX : va_X b L xs g.s g.s.heap) (hb : b < g.s.heap.size) (hbA : ¬ g.A b) (hL : L ≤ 3072) {i : Int} (hi : 0 ≤ i ∧ i + 5 < L) {d : Dl} {adM : Nat → Nat} {wC wM : Wd} (hce : d.ce + 15 ≤ MCL ∧ d.so + 852 ≤ MSL) {res : Nat × Wd × Wd} (hq : p_op_46 xs i d.na wC wM = some res)
    (K : ∀ (d1 : Dl) (w1 w2 : Wd), AG d.na d.ad d1 → d1.ce ≤ d.ce + 15 → d1.so ≤ d.so + 852 → some (d1.na, w1, w2) = some res → XG g d1 (hQ g d1 adM w1 w2) [(0, .ref b), (1, .ref (d1.ad 1)), (2, .ref (adM 50)), (3, .ref (d1.ad 34)), (4, iV i)] [] 2560) :
    XG g d (hQ g d adM wC wM) [(0, .ref b), (1, .ref (d.ad 1)), (2, .ref (adM 50)), (3, .ref (d.ad 34)), (4, iV i)] [] 2335 := by
  unfold p_op_46 at hq
  refine x_aload_n C 1 dL_law_2335 rfl ?_
  refine x_aload_n C 3 dL_law_2336 rfl ?_
  refine q_wr (mc' := 1) (ms' := 6) (rm := rmv 7 139 1 6) (As := [.ref (d.ad 1), .ref (d.ad 34)]) (rest := []) C hA hR hNC mfL_undo lk_L_294 ⟨rfl, rfl⟩ ⟨Nat.le_of_ble_eq_true rfl, Nat.le_of_ble_eq_true rfl⟩ rfl rfl (Nat.le_of_ble_eq_true rfl) (lq hce (by decide) (by decide)) dL_law_2337 hq (fun _ h => c_L_undo g.l g.G hfl h) (fun z1 d2 _ hq agd2 hn hc1 hc2 => ?_)
  have e1 := agq1 agd2; have e3 := agq3 agd2; rw [e1, e3]; rw [← hn] at hq
  refine x_istore C dL_law_2340 (by decide) rfl ?_
  refine x_aload_n C 3 dL_law_2342 rfl ?_
  refine q_mI (rm := rmv 2 44 0 0) (K := 10) (o := 50) (As := []) (rest := []) C hA hR mf_X9_undo lk_L_296 rfl ⟨rfl, rfl⟩ (by decide) ⟨rfl, rfl⟩ ⟨Nat.le_of_ble_eq_true rfl, Nat.le_of_ble_eq_true rfl⟩ rfl rfl (Nat.le_of_ble_eq_true rfl) (lq1 hce hc1 hc2 (by decide) (by decide)) dL_law_2343 hq (fun _ _ h => c_X9_undo g.l g.G rfl h) (fun rm3 wm3 _ hq => ?_)
  refine x_istore C dL_law_2346 (by decide) rfl ?_
  refine x_aload_n C 4 dL_law_2348 rfl ?_
  refine q_mI (rm := rmv 0 0 0 0) (K := 10) (o := 50) (As := []) (rest := []) C hA hR mf_X9_thrown lk_L_130 rfl ⟨rfl, rfl⟩ (by decide) ⟨rfl, rfl⟩ ⟨Nat.le_of_ble_eq_true rfl, Nat.le_of_ble_eq_true rfl⟩ rfl rfl (Nat.le_of_ble_eq_true rfl) (lq1 hce hc1 hc2 (by decide) (by decide)) dL_law_2349 hq (fun _ _ h => c_X9_thrown g.l g.G rfl h) (fun rm4 wm4 _ hq => ?_)
  refine x_iload C 1 dL_law_2352 rfl ?_
  refine x_icmp_eq (tgt := 2359) C dL_law_2354 (by decide) hq (fun hq => ?_) (fun hq => ?_)
  · refine x_iload C 1 dL_law_2359 rfl ?_
    refine x_if_ne (tgt := 2376) C dL_law_2361 (by decide) hq (fun hq => ?_) (fun hq => ?_)
    · refine x_goto (tgt := 2560) C dL_law_2376 (by decide) ?_
      refine XG.sub [2, 3, 4, 5, 6] rfl ?_
      exact K d2 _ _ (agd2) (lc hc1 (by decide)) (lc hc2 (by decide)) hq
    · refine x_aload_n C 5 dL_law_2364 rfl ?_
      refine x_iconst C dL_law_2365 ?_
      refine q_lald C (by decide) dL_law_2366 ?_
      refine x_iload C 0 dL_law_2367 rfl ?_
      refine x_i2l C dL_law_2369 ?_
      refine x_lcmp C dL_law_2370 ?_
      refine x_if_eq (tgt := 2376) C dL_law_2371 (by decide) hq (fun hq => ?_) (fun hq => ?_)
      · refine x_goto (tgt := 2560) C dL_law_2376 (by decide) ?_
        refine XG.sub [2, 3, 4, 5, 6] rfl ?_
        exact K d2 _ _ (agd2) (lc hc1 (by decide)) (lc hc2 (by decide)) hq
      · exact nomatch hq
  · exact nomatch hq
theorem L_op_47 {g : Cx} {ret9 : Option FieldType} (C : CX g cL_law 9 ret9 RL) (hfl : g.l.stackTraces = false) (hA : ∀ q : Nat, g.s.heap.size ≤ q → g.A q) (hR : g.R = room_1) (hNC : NC3 g.s) {b L : Nat} {xs : Nat → Int32} (hX : va_X b L xs g.s g.s.heap) (hb : b < g.s.heap.size) (hbA : ¬ g.A b) (hL : L ≤ 3072) {i : Int} (hi : 0 ≤ i ∧ i + 5 < L) {d : Dl} {adM : Nat → Nat} {wC wM : Wd} (hce : d.ce + 15 ≤ MCL ∧ d.so + 852 ≤ MSL) {res : Nat × Wd × Wd} (hq : p_op_47 xs i d.na wC wM = some res)
    (K : ∀ (d1 : Dl) (w1 w2 : Wd), AG d.na d.ad d1 → d1.ce ≤ d.ce + 15 → d1.so ≤ d.so + 852 → some (d1.na, w1, w2) = some res → XG g d1 (hQ g d1 adM w1 w2) [(0, .ref b), (1, .ref (d1.ad 1)), (2, .ref (adM 50)), (3, .ref (d1.ad 34)), (4, iV i)] [] 2560) :
    XG g d (hQ g d adM wC wM) [(0, .ref b), (1, .ref (d.ad 1)), (2, .ref (adM 50)), (3, .ref (d.ad 34)), (4, iV i)] [] 2379 := by
  unfold p_op_47 at hq
  refine x_aload_n C 1 dL_law_2379 rfl ?_
  refine q_cI (rm := rmv 0 0 0 0) (K := 9) (o := 1) (As := []) (rest := []) C hA hR mf_X8_undoCount lk_L_297 rfl ⟨rfl, rfl⟩ (by decide) ⟨rfl, rfl⟩ ⟨Nat.le_of_ble_eq_true rfl, Nat.le_of_ble_eq_true rfl⟩ rfl rfl (Nat.le_of_ble_eq_true rfl) (lq0 hce) dL_law_2380 hq (fun _ _ h => c_X8_undoCount g.l g.G rfl h) (fun rm1 wm1 _ hq => ?_)
  refine x_aload_n C 2 dL_law_2383 rfl ?_
  refine q_mI (rm := rmv 0 0 0 0) (K := 10) (o := 50) (As := []) (rest := [iV rm1]) C hA hR mf_X9_undoCount lk_L_300 rfl ⟨rfl, rfl⟩ (by decide) ⟨rfl, rfl⟩ ⟨Nat.le_of_ble_eq_true rfl, Nat.le_of_ble_eq_true rfl⟩ rfl rfl (Nat.le_of_ble_eq_true rfl) (lq0 hce) dL_law_2384 hq (fun _ _ h => c_X9_undoCount g.l g.G rfl h) (fun rm2 wm2 _ hq => ?_)
  refine x_icmp_eq (tgt := 2560) C dL_law_2387 (by decide) hq (fun hq => ?_) (fun hq => ?_)
  · exact K d _ _ (AG.rf _) (Nat.le_add_right _ _) (Nat.le_add_right _ _) hq
  · exact nomatch hq
theorem L_op_48 {g : Cx} {ret9 : Option FieldType} (C : CX g cL_law 9 ret9 RL) (hfl : g.l.stackTraces = false) (hA : ∀ q : Nat, g.s.heap.size ≤ q → g.A q) (hR : g.R = room_1) (hNC : NC3 g.s) {b L : Nat} {xs : Nat → Int32} (hX : va_X b L xs g.s g.s.heap) (hb : b < g.s.heap.size) (hbA : ¬ g.A b) (hL : L ≤ 3072) {i : Int} (hi : 0 ≤ i ∧ i + 5 < L) {d : Dl} {adM : Nat → Nat} {wC wM : Wd} (hce : d.ce + 15 ≤ MCL ∧ d.so + 852 ≤ MSL) {res : Nat × Wd × Wd} (hq : p_op_48 xs i d.na wC wM = some res)
    (K : ∀ (d1 : Dl) (w1 w2 : Wd), AG d.na d.ad d1 → d1.ce ≤ d.ce + 15 → d1.so ≤ d.so + 852 → some (d1.na, w1, w2) = some res → XG g d1 (hQ g d1 adM w1 w2) [(0, .ref b), (1, .ref (d1.ad 1)), (2, .ref (adM 50)), (3, .ref (d1.ad 34)), (4, iV i)] [] 2560) :
    XG g d (hQ g d adM wC wM) [(0, .ref b), (1, .ref (d.ad 1)), (2, .ref (adM 50)), (3, .ref (d.ad 34)), (4, iV i)] [] 2392 := by
  unfold p_op_48 at hq
  refine x_aload_n C 1 dL_law_2392 rfl ?_
  refine x_aload_n C 0 dL_law_2393 rfl ?_
  refine x_iload C 4 dL_law_2394 rfl ?_
  refine x_iconst C dL_law_2396 ?_
  refine x_iadd C dL_law_2397 ?_
  refine q_sld C hX hb hbA ⟨by omega, by omega⟩ hL dL_law_2398 ?_
  refine x_aload_n C 3 dL_law_2399 rfl ?_
  refine q_wr (mc' := 1) (ms' := 6) (rm := rmv 8 132 1 6) (As := [.ref (d.ad 1), iV (sc xs (i + 1)), .ref (d.ad 34)]) (rest := []) C hA hR hNC mfL_writeRow lk_L_301 ⟨rfl, rfl⟩ ⟨Nat.le_of_ble_eq_true rfl, Nat.le_of_ble_eq_true rfl⟩ rfl rfl (Nat.le_of_ble_eq_true rfl) (lq hce (by decide) (by decide)) dL_law_2400 hq (fun _ h => c_L_writeRow g.l g.G hfl h) (fun z1 d2 _ hq agd2 hn hc1 hc2 => ?_)
  have e1 := agq1 agd2; have e3 := agq3 agd2; rw [e1, e3]; rw [← hn] at hq
  refine x_istore C dL_law_2403 (by decide) rfl ?_
  refine x_aload_n C 3 dL_law_2405 rfl ?_
  refine x_aload_n C 1 dL_law_2406 rfl ?_
  refine x_iload C 5 dL_law_2407 rfl ?_
  refine x_iconst C dL_law_2409 ?_
  refine x_iadd C dL_law_2410 ?_
  refine q_sld C hX hb hbA ⟨by omega, by omega⟩ hL dL_law_2411 ?_
  refine q_mI (rm := rmv 9 213 0 0) (K := 10) (o := 50) (As := [iV (sc xs (i + 1))]) (rest := []) C hA hR mf_X9_writeRow lk_L_303 rfl ⟨rfl, rfl⟩ (by decide) ⟨rfl, rfl⟩ ⟨Nat.le_of_ble_eq_true rfl, Nat.le_of_ble_eq_true rfl⟩ rfl rfl (Nat.le_of_ble_eq_true rfl) (lq1 hce hc1 hc2 (by decide) (by decide)) dL_law_2412 hq (fun _ _ h => c_X9_writeRow g.l g.G rfl h) (fun rm3 wm3 _ hq => ?_)
  refine x_istore C dL_law_2415 (by decide) rfl ?_
  refine x_aload_n C 4 dL_law_2417 rfl ?_
  refine q_mI (rm := rmv 0 0 0 0) (K := 10) (o := 50) (As := []) (rest := []) C hA hR mf_X9_thrown lk_L_130 rfl ⟨rfl, rfl⟩ (by decide) ⟨rfl, rfl⟩ ⟨Nat.le_of_ble_eq_true rfl, Nat.le_of_ble_eq_true rfl⟩ rfl rfl (Nat.le_of_ble_eq_true rfl) (lq1 hce hc1 hc2 (by decide) (by decide)) dL_law_2418 hq (fun _ _ h => c_X9_thrown g.l g.G rfl h) (fun rm4 wm4 _ hq => ?_)
  refine x_iload C 1 dL_law_2421 rfl ?_
  refine x_icmp_eq (tgt := 2428) C dL_law_2423 (by decide) hq (fun hq => ?_) (fun hq => ?_)
  · refine x_iload C 1 dL_law_2428 rfl ?_
    refine x_if_ne (tgt := 2445) C dL_law_2430 (by decide) hq (fun hq => ?_) (fun hq => ?_)
    · refine x_goto (tgt := 2560) C dL_law_2445 (by decide) ?_
      refine XG.sub [2, 3, 4, 5, 6] rfl ?_
      exact K d2 _ _ (agd2) (lc hc1 (by decide)) (lc hc2 (by decide)) hq
    · refine x_aload_n C 5 dL_law_2433 rfl ?_
      refine x_iconst C dL_law_2434 ?_
      refine q_lald C (by decide) dL_law_2435 ?_
      refine x_iload C 0 dL_law_2436 rfl ?_
      refine x_i2l C dL_law_2438 ?_
      refine x_lcmp C dL_law_2439 ?_
      refine x_if_eq (tgt := 2445) C dL_law_2440 (by decide) hq (fun hq => ?_) (fun hq => ?_)
      · refine x_goto (tgt := 2560) C dL_law_2445 (by decide) ?_
        refine XG.sub [2, 3, 4, 5, 6] rfl ?_
        exact K d2 _ _ (agd2) (lc hc1 (by decide)) (lc hc2 (by decide)) hq
      · exact nomatch hq
  · exact nomatch hq
theorem L_op_49 {g : Cx} {ret9 : Option FieldType} (C : CX g cL_law 9 ret9 RL) (hfl : g.l.stackTraces = false) (hA : ∀ q : Nat, g.s.heap.size ≤ q → g.A q) (hR : g.R = room_1) (hNC : NC3 g.s) {b L : Nat} {xs : Nat → Int32} (hX : va_X b L xs g.s g.s.heap) (hb : b < g.s.heap.size) (hbA : ¬ g.A b) (hL : L ≤ 3072) {i : Int} (hi : 0 ≤ i ∧ i + 5 < L) {d : Dl} {adM : Nat → Nat} {wC wM : Wd} (hce : d.ce + 15 ≤ MCL ∧ d.so + 852 ≤ MSL) {res : Nat × Wd × Wd} (hq : p_op_49 xs i d.na wC wM = some res)
    (K : ∀ (d1 : Dl) (w1 w2 : Wd), AG d.na d.ad d1 → d1.ce ≤ d.ce + 15 → d1.so ≤ d.so + 852 → some (d1.na, w1, w2) = some res → XG g d1 (hQ g d1 adM w1 w2) [(0, .ref b), (1, .ref (d1.ad 1)), (2, .ref (adM 50)), (3, .ref (d1.ad 34)), (4, iV i)] [] 2560) :
    XG g d (hQ g d adM wC wM) [(0, .ref b), (1, .ref (d.ad 1)), (2, .ref (adM 50)), (3, .ref (d.ad 34)), (4, iV i)] [] 2448 := by
  unfold p_op_49 at hq
  refine x_aload_n C 1 dL_law_2448 rfl ?_
  refine x_aload_n C 0 dL_law_2449 rfl ?_
  refine x_iload C 4 dL_law_2450 rfl ?_
  refine x_iconst C dL_law_2452 ?_
  refine x_iadd C dL_law_2453 ?_
  refine q_sld C hX hb hbA ⟨by omega, by omega⟩ hL dL_law_2454 ?_
  refine x_aload_n C 3 dL_law_2455 rfl ?_
  refine q_wr (mc' := 1) (ms' := 6) (rm := rmv 8 134 1 6) (As := [.ref (d.ad 1), iV (sc xs (i + 1)), .ref (d.ad 34)]) (rest := []) C hA hR hNC mfL_writePart lk_L_304 ⟨rfl, rfl⟩ ⟨Nat.le_of_ble_eq_true rfl, Nat.le_of_ble_eq_true rfl⟩ rfl rfl (Nat.le_of_ble_eq_true rfl) (lq hce (by decide) (by decide)) dL_law_2456 hq (fun _ h => c_L_writePart g.l g.G hfl h) (fun z1 d2 _ hq agd2 hn hc1 hc2 => ?_)
  have e1 := agq1 agd2; have e3 := agq3 agd2; rw [e1, e3]; rw [← hn] at hq
  refine x_istore C dL_law_2459 (by decide) rfl ?_
  refine x_aload_n C 3 dL_law_2461 rfl ?_
  refine x_aload_n C 1 dL_law_2462 rfl ?_
  refine x_iload C 5 dL_law_2463 rfl ?_
  refine x_iconst C dL_law_2465 ?_
  refine x_iadd C dL_law_2466 ?_
  refine q_sld C hX hb hbA ⟨by omega, by omega⟩ hL dL_law_2467 ?_
  refine q_mI (rm := rmv 9 213 0 0) (K := 10) (o := 50) (As := [iV (sc xs (i + 1))]) (rest := []) C hA hR mf_X9_writePart lk_L_306 rfl ⟨rfl, rfl⟩ (by decide) ⟨rfl, rfl⟩ ⟨Nat.le_of_ble_eq_true rfl, Nat.le_of_ble_eq_true rfl⟩ rfl rfl (Nat.le_of_ble_eq_true rfl) (lq1 hce hc1 hc2 (by decide) (by decide)) dL_law_2468 hq (fun _ _ h => c_X9_writePart g.l g.G rfl h) (fun rm3 wm3 _ hq => ?_)
  refine x_istore C dL_law_2471 (by decide) rfl ?_
  refine x_aload_n C 4 dL_law_2473 rfl ?_
  refine q_mI (rm := rmv 0 0 0 0) (K := 10) (o := 50) (As := []) (rest := []) C hA hR mf_X9_thrown lk_L_130 rfl ⟨rfl, rfl⟩ (by decide) ⟨rfl, rfl⟩ ⟨Nat.le_of_ble_eq_true rfl, Nat.le_of_ble_eq_true rfl⟩ rfl rfl (Nat.le_of_ble_eq_true rfl) (lq1 hce hc1 hc2 (by decide) (by decide)) dL_law_2474 hq (fun _ _ h => c_X9_thrown g.l g.G rfl h) (fun rm4 wm4 _ hq => ?_)
  refine x_iload C 1 dL_law_2477 rfl ?_
  refine x_icmp_eq (tgt := 2484) C dL_law_2479 (by decide) hq (fun hq => ?_) (fun hq => ?_)
  · refine x_iload C 1 dL_law_2484 rfl ?_
    refine x_if_ne (tgt := 2501) C dL_law_2486 (by decide) hq (fun hq => ?_) (fun hq => ?_)
    · refine x_goto (tgt := 2560) C dL_law_2501 (by decide) ?_
      refine XG.sub [2, 3, 4, 5, 6] rfl ?_
      exact K d2 _ _ (agd2) (lc hc1 (by decide)) (lc hc2 (by decide)) hq
    · refine x_aload_n C 5 dL_law_2489 rfl ?_
      refine x_iconst C dL_law_2490 ?_
      refine q_lald C (by decide) dL_law_2491 ?_
      refine x_iload C 0 dL_law_2492 rfl ?_
      refine x_i2l C dL_law_2494 ?_
      refine x_lcmp C dL_law_2495 ?_
      refine x_if_eq (tgt := 2501) C dL_law_2496 (by decide) hq (fun hq => ?_) (fun hq => ?_)
      · refine x_goto (tgt := 2560) C dL_law_2501 (by decide) ?_
        refine XG.sub [2, 3, 4, 5, 6] rfl ?_
        exact K d2 _ _ (agd2) (lc hc1 (by decide)) (lc hc2 (by decide)) hq
      · exact nomatch hq
  · exact nomatch hq
theorem L_op_50 {g : Cx} {ret9 : Option FieldType} (C : CX g cL_law 9 ret9 RL) (hfl : g.l.stackTraces = false) (hA : ∀ q : Nat, g.s.heap.size ≤ q → g.A q) (hR : g.R = room_1) (hNC : NC3 g.s) {b L : Nat} {xs : Nat → Int32} (hX : va_X b L xs g.s g.s.heap) (hb : b < g.s.heap.size) (hbA : ¬ g.A b) (hL : L ≤ 3072) {i : Int} (hi : 0 ≤ i ∧ i + 5 < L) {d : Dl} {adM : Nat → Nat} {wC wM : Wd} (hce : d.ce + 15 ≤ MCL ∧ d.so + 852 ≤ MSL) {res : Nat × Wd × Wd} (hq : p_op_50 xs i d.na wC wM = some res)
    (K : ∀ (d1 : Dl) (w1 w2 : Wd), AG d.na d.ad d1 → d1.ce ≤ d.ce + 15 → d1.so ≤ d.so + 852 → some (d1.na, w1, w2) = some res → XG g d1 (hQ g d1 adM w1 w2) [(0, .ref b), (1, .ref (d1.ad 1)), (2, .ref (adM 50)), (3, .ref (d1.ad 34)), (4, iV i)] [] 2560) :
    XG g d (hQ g d adM wC wM) [(0, .ref b), (1, .ref (d.ad 1)), (2, .ref (adM 50)), (3, .ref (d.ad 34)), (4, iV i)] [] 2504 := by
  unfold p_op_50 at hq
  refine x_aload_n C 1 dL_law_2504 rfl ?_
  refine x_aload_n C 0 dL_law_2505 rfl ?_
  refine x_iload C 4 dL_law_2506 rfl ?_
  refine x_iconst C dL_law_2508 ?_
  refine x_iadd C dL_law_2509 ?_
  refine q_sld C hX hb hbA ⟨by omega, by omega⟩ hL dL_law_2510 ?_
  refine x_aload_n C 3 dL_law_2511 rfl ?_
  refine q_wr (mc' := 1) (ms' := 6) (rm := rmv 7 110 1 6) (As := [.ref (d.ad 1), iV (sc xs (i + 1)), .ref (d.ad 34)]) (rest := []) C hA hR hNC mfL_outputByte lk_L_307 ⟨rfl, rfl⟩ ⟨Nat.le_of_ble_eq_true rfl, Nat.le_of_ble_eq_true rfl⟩ rfl rfl (Nat.le_of_ble_eq_true rfl) (lq hce (by decide) (by decide)) dL_law_2512 hq (fun _ h => c_L_outputByte g.l g.G hfl h) (fun z1 d2 _ hq agd2 hn hc1 hc2 => ?_)
  have e1 := agq1 agd2; have e3 := agq3 agd2; rw [e1, e3]; rw [← hn] at hq
  refine x_istore C dL_law_2515 (by decide) rfl ?_
  refine x_aload_n C 3 dL_law_2517 rfl ?_
  refine x_aload_n C 1 dL_law_2518 rfl ?_
  refine x_iload C 5 dL_law_2519 rfl ?_
  refine x_iconst C dL_law_2521 ?_
  refine x_iadd C dL_law_2522 ?_
  refine q_sld C hX hb hbA ⟨by omega, by omega⟩ hL dL_law_2523 ?_
  refine q_mI (rm := rmv 2 44 0 0) (K := 10) (o := 50) (As := [iV (sc xs (i + 1))]) (rest := []) C hA hR mf_X9_outputByte lk_L_309 rfl ⟨rfl, rfl⟩ (by decide) ⟨rfl, rfl⟩ ⟨Nat.le_of_ble_eq_true rfl, Nat.le_of_ble_eq_true rfl⟩ rfl rfl (Nat.le_of_ble_eq_true rfl) (lq1 hce hc1 hc2 (by decide) (by decide)) dL_law_2524 hq (fun _ _ h => c_X9_outputByte g.l g.G rfl h) (fun rm3 wm3 _ hq => ?_)
  refine x_istore C dL_law_2527 (by decide) rfl ?_
  refine x_aload_n C 4 dL_law_2529 rfl ?_
  refine q_mI (rm := rmv 0 0 0 0) (K := 10) (o := 50) (As := []) (rest := []) C hA hR mf_X9_thrown lk_L_130 rfl ⟨rfl, rfl⟩ (by decide) ⟨rfl, rfl⟩ ⟨Nat.le_of_ble_eq_true rfl, Nat.le_of_ble_eq_true rfl⟩ rfl rfl (Nat.le_of_ble_eq_true rfl) (lq1 hce hc1 hc2 (by decide) (by decide)) dL_law_2530 hq (fun _ _ h => c_X9_thrown g.l g.G rfl h) (fun rm4 wm4 _ hq => ?_)
  refine x_iload C 1 dL_law_2533 rfl ?_
  refine x_icmp_eq (tgt := 2540) C dL_law_2535 (by decide) hq (fun hq => ?_) (fun hq => ?_)
  · refine x_iload C 1 dL_law_2540 rfl ?_
    refine x_if_ne (tgt := 2557) C dL_law_2542 (by decide) hq (fun hq => ?_) (fun hq => ?_)
    · refine x_goto (tgt := 2560) C dL_law_2557 (by decide) ?_
      refine XG.sub [2, 3, 4, 5, 6] rfl ?_
      exact K d2 _ _ (agd2) (lc hc1 (by decide)) (lc hc2 (by decide)) hq
    · refine x_aload_n C 5 dL_law_2545 rfl ?_
      refine x_iconst C dL_law_2546 ?_
      refine q_lald C (by decide) dL_law_2547 ?_
      refine x_iload C 0 dL_law_2548 rfl ?_
      refine x_i2l C dL_law_2550 ?_
      refine x_lcmp C dL_law_2551 ?_
      refine x_if_eq (tgt := 2557) C dL_law_2552 (by decide) hq (fun hq => ?_) (fun hq => ?_)
      · refine x_goto (tgt := 2560) C dL_law_2557 (by decide) ?_
        refine XG.sub [2, 3, 4, 5, 6] rfl ?_
        exact K d2 _ _ (agd2) (lc hc1 (by decide)) (lc hc2 (by decide)) hq
      · exact nomatch hq
  · exact nomatch hq
