theorem wd_963 : (Cond.methodLink RL 152 yL_append : Cond) ∈ WALL := wall_t (tw_4 _ (List.mem_of_getElem? (i := 131) (by decide +kernel))) rfl
theorem wd_964 : (Cond.static yL_append : Cond) ∈ WALL := wall_t (tw_4 _ (List.mem_of_getElem? (i := 132) (by decide +kernel))) rfl
theorem wd_112 : (Cond.initialized RL : Cond) ∈ WALL := wall_t (tw_1 _ (List.mem_of_getElem? (i := 0) (by decide +kernel))) rfl
theorem wd_1623 : (Cond.methodLink RL 157 yX11_append : Cond) ∈ WALL := wall_t (tw_7 _ (List.mem_of_getElem? (i := 71) (by decide +kernel))) rfl
theorem wd_1624 : (Cond.instanceMethod yX11_append : Cond) ∈ WALL := wall_t (tw_7 _ (List.mem_of_getElem? (i := 72) (by decide +kernel))) rfl
theorem wd_1625 : (Cond.selects RX11 yX11_append yX11_append : Cond) ∈ WALL := wall_t (tw_7 _ (List.mem_of_getElem? (i := 73) (by decide +kernel))) rfl
theorem wd_1492 : (Cond.methodLink RL 158 yX11_thrown : Cond) ∈ WALL := wall_t (tw_6 _ (List.mem_of_getElem? (i := 180) (by decide +kernel))) rfl
theorem wd_1493 : (Cond.instanceMethod yX11_thrown : Cond) ∈ WALL := wall_t (tw_6 _ (List.mem_of_getElem? (i := 181) (by decide +kernel))) rfl
theorem wd_1494 : (Cond.selects RX11 yX11_thrown yX11_thrown : Cond) ∈ WALL := wall_t (tw_6 _ (List.mem_of_getElem? (i := 182) (by decide +kernel))) rfl
theorem wd_1043 : (Cond.methodLink RL 161 yL_truncate : Cond) ∈ WALL := wall_t (tw_4 _ (List.mem_of_getElem? (i := 211) (by decide +kernel))) rfl
theorem wd_1044 : (Cond.static yL_truncate : Cond) ∈ WALL := wall_t (tw_4 _ (List.mem_of_getElem? (i := 212) (by decide +kernel))) rfl
theorem wd_1639 : (Cond.methodLink RL 164 yX11_truncate : Cond) ∈ WALL := wall_t (tw_7 _ (List.mem_of_getElem? (i := 87) (by decide +kernel))) rfl
theorem wd_1640 : (Cond.instanceMethod yX11_truncate : Cond) ∈ WALL := wall_t (tw_7 _ (List.mem_of_getElem? (i := 88) (by decide +kernel))) rfl
theorem wd_1641 : (Cond.selects RX11 yX11_truncate yX11_truncate : Cond) ∈ WALL := wall_t (tw_7 _ (List.mem_of_getElem? (i := 89) (by decide +kernel))) rfl
theorem wd_551 : (Cond.methodLink RL 165 yX10_load : Cond) ∈ WALL := wall_t (tw_2 _ (List.mem_of_getElem? (i := 199) (by decide +kernel))) rfl
theorem wd_552 : (Cond.instanceMethod yX10_load : Cond) ∈ WALL := wall_t (tw_2 _ (List.mem_of_getElem? (i := 200) (by decide +kernel))) rfl
theorem wd_553 : (Cond.selects RX10 yX10_load yX10_load : Cond) ∈ WALL := wall_t (tw_2 _ (List.mem_of_getElem? (i := 201) (by decide +kernel))) rfl
theorem wd_1646 : (Cond.methodLink RL 168 yX11_load : Cond) ∈ WALL := wall_t (tw_7 _ (List.mem_of_getElem? (i := 94) (by decide +kernel))) rfl
theorem wd_1647 : (Cond.instanceMethod yX11_load : Cond) ∈ WALL := wall_t (tw_7 _ (List.mem_of_getElem? (i := 95) (by decide +kernel))) rfl
theorem wd_1648 : (Cond.selects RX11 yX11_load yX11_load : Cond) ∈ WALL := wall_t (tw_7 _ (List.mem_of_getElem? (i := 96) (by decide +kernel))) rfl
theorem wd_710 : (Cond.methodLink RL 169 yX10_errorCode : Cond) ∈ WALL := wall_t (tw_3 _ (List.mem_of_getElem? (i := 118) (by decide +kernel))) rfl
theorem wd_711 : (Cond.instanceMethod yX10_errorCode : Cond) ∈ WALL := wall_t (tw_3 _ (List.mem_of_getElem? (i := 119) (by decide +kernel))) rfl
theorem wd_712 : (Cond.selects RX10 yX10_errorCode yX10_errorCode : Cond) ∈ WALL := wall_t (tw_3 _ (List.mem_of_getElem? (i := 120) (by decide +kernel))) rfl
theorem wd_1746 : (Cond.methodLink RL 172 yX11_errorCode : Cond) ∈ WALL := wall_t (tw_7 _ (List.mem_of_getElem? (i := 194) (by decide +kernel))) rfl
theorem wd_1747 : (Cond.instanceMethod yX11_errorCode : Cond) ∈ WALL := wall_t (tw_7 _ (List.mem_of_getElem? (i := 195) (by decide +kernel))) rfl
theorem wd_1748 : (Cond.selects RX11 yX11_errorCode yX11_errorCode : Cond) ∈ WALL := wall_t (tw_7 _ (List.mem_of_getElem? (i := 196) (by decide +kernel))) rfl
theorem wd_714 : (Cond.methodLink RL 173 yX10_errorPosition : Cond) ∈ WALL := wall_t (tw_3 _ (List.mem_of_getElem? (i := 122) (by decide +kernel))) rfl
theorem wd_715 : (Cond.instanceMethod yX10_errorPosition : Cond) ∈ WALL := wall_t (tw_3 _ (List.mem_of_getElem? (i := 123) (by decide +kernel))) rfl
theorem wd_716 : (Cond.selects RX10 yX10_errorPosition yX10_errorPosition : Cond) ∈ WALL := wall_t (tw_3 _ (List.mem_of_getElem? (i := 124) (by decide +kernel))) rfl
theorem wd_1750 : (Cond.methodLink RL 176 yX11_errorPosition : Cond) ∈ WALL := wall_t (tw_7 _ (List.mem_of_getElem? (i := 198) (by decide +kernel))) rfl
theorem wd_1751 : (Cond.instanceMethod yX11_errorPosition : Cond) ∈ WALL := wall_t (tw_7 _ (List.mem_of_getElem? (i := 199) (by decide +kernel))) rfl
theorem wd_1752 : (Cond.selects RX11 yX11_errorPosition yX11_errorPosition : Cond) ∈ WALL := wall_t (tw_7 _ (List.mem_of_getElem? (i := 200) (by decide +kernel))) rfl
theorem wd_1067 : (Cond.methodLink RL 177 yL_property : Cond) ∈ WALL := wall_t (tw_4 _ (List.mem_of_getElem? (i := 235) (by decide +kernel))) rfl
theorem wd_1068 : (Cond.static yL_property : Cond) ∈ WALL := wall_t (tw_4 _ (List.mem_of_getElem? (i := 236) (by decide +kernel))) rfl
theorem wd_1754 : (Cond.methodLink RL 180 yX11_property : Cond) ∈ WALL := wall_t (tw_7 _ (List.mem_of_getElem? (i := 202) (by decide +kernel))) rfl
theorem wd_1755 : (Cond.instanceMethod yX11_property : Cond) ∈ WALL := wall_t (tw_7 _ (List.mem_of_getElem? (i := 203) (by decide +kernel))) rfl
theorem wd_1756 : (Cond.selects RX11 yX11_property yX11_property : Cond) ∈ WALL := wall_t (tw_7 _ (List.mem_of_getElem? (i := 204) (by decide +kernel))) rfl
theorem wd_1083 : (Cond.methodLink RL 181 yL_item : Cond) ∈ WALL := wall_t (tw_5 _ (List.mem_of_getElem? (i := 11) (by decide +kernel))) rfl
theorem wd_1084 : (Cond.static yL_item : Cond) ∈ WALL := wall_t (tw_5 _ (List.mem_of_getElem? (i := 12) (by decide +kernel))) rfl
theorem wd_1766 : (Cond.methodLink RL 184 yX11_item : Cond) ∈ WALL := wall_t (tw_7 _ (List.mem_of_getElem? (i := 214) (by decide +kernel))) rfl
theorem wd_1767 : (Cond.instanceMethod yX11_item : Cond) ∈ WALL := wall_t (tw_7 _ (List.mem_of_getElem? (i := 215) (by decide +kernel))) rfl
theorem wd_1768 : (Cond.selects RX11 yX11_item yX11_item : Cond) ∈ WALL := wall_t (tw_7 _ (List.mem_of_getElem? (i := 216) (by decide +kernel))) rfl
theorem wd_1115 : (Cond.methodLink RL 185 yL_refusal : Cond) ∈ WALL := wall_t (tw_5 _ (List.mem_of_getElem? (i := 43) (by decide +kernel))) rfl
theorem wd_1116 : (Cond.static yL_refusal : Cond) ∈ WALL := wall_t (tw_5 _ (List.mem_of_getElem? (i := 44) (by decide +kernel))) rfl
theorem wd_1775 : (Cond.methodLink RL 187 yX11_refusal : Cond) ∈ WALL := wall_t (tw_7 _ (List.mem_of_getElem? (i := 223) (by decide +kernel))) rfl
theorem wd_1776 : (Cond.instanceMethod yX11_refusal : Cond) ∈ WALL := wall_t (tw_7 _ (List.mem_of_getElem? (i := 224) (by decide +kernel))) rfl
theorem wd_1777 : (Cond.selects RX11 yX11_refusal yX11_refusal : Cond) ∈ WALL := wall_t (tw_7 _ (List.mem_of_getElem? (i := 225) (by decide +kernel))) rfl
theorem wd_1128 : (Cond.methodLink RL 188 yL_sum : Cond) ∈ WALL := wall_t (tw_5 _ (List.mem_of_getElem? (i := 56) (by decide +kernel))) rfl
theorem wd_1129 : (Cond.static yL_sum : Cond) ∈ WALL := wall_t (tw_5 _ (List.mem_of_getElem? (i := 57) (by decide +kernel))) rfl
theorem wd_1803 : (Cond.methodLink RL 190 yX11_sum : Cond) ∈ WALL := wall_t (tw_8 _ (List.mem_of_getElem? (i := 11) (by decide +kernel))) rfl
theorem wd_1804 : (Cond.instanceMethod yX11_sum : Cond) ∈ WALL := wall_t (tw_8 _ (List.mem_of_getElem? (i := 12) (by decide +kernel))) rfl
theorem wd_1805 : (Cond.selects RX11 yX11_sum yX11_sum : Cond) ∈ WALL := wall_t (tw_8 _ (List.mem_of_getElem? (i := 13) (by decide +kernel))) rfl
theorem wd_718 : (Cond.methodLink RL 191 yX10_allowed : Cond) ∈ WALL := wall_t (tw_3 _ (List.mem_of_getElem? (i := 126) (by decide +kernel))) rfl
theorem wd_719 : (Cond.instanceMethod yX10_allowed : Cond) ∈ WALL := wall_t (tw_3 _ (List.mem_of_getElem? (i := 127) (by decide +kernel))) rfl
theorem wd_720 : (Cond.selects RX10 yX10_allowed yX10_allowed : Cond) ∈ WALL := wall_t (tw_3 _ (List.mem_of_getElem? (i := 128) (by decide +kernel))) rfl
theorem wd_1808 : (Cond.methodLink RL 194 yX11_allowed : Cond) ∈ WALL := wall_t (tw_8 _ (List.mem_of_getElem? (i := 16) (by decide +kernel))) rfl
theorem wd_1809 : (Cond.instanceMethod yX11_allowed : Cond) ∈ WALL := wall_t (tw_8 _ (List.mem_of_getElem? (i := 17) (by decide +kernel))) rfl
theorem wd_1810 : (Cond.selects RX11 yX11_allowed yX11_allowed : Cond) ∈ WALL := wall_t (tw_8 _ (List.mem_of_getElem? (i := 18) (by decide +kernel))) rfl
theorem wd_800 : (Cond.methodLink RL 195 yX10_points : Cond) ∈ WALL := wall_t (tw_3 _ (List.mem_of_getElem? (i := 208) (by decide +kernel))) rfl
theorem wd_801 : (Cond.instanceMethod yX10_points : Cond) ∈ WALL := wall_t (tw_3 _ (List.mem_of_getElem? (i := 209) (by decide +kernel))) rfl
theorem wd_802 : (Cond.selects RX10 yX10_points yX10_points : Cond) ∈ WALL := wall_t (tw_3 _ (List.mem_of_getElem? (i := 210) (by decide +kernel))) rfl
theorem wd_1821 : (Cond.methodLink RL 198 yX11_points : Cond) ∈ WALL := wall_t (tw_8 _ (List.mem_of_getElem? (i := 29) (by decide +kernel))) rfl
theorem wd_1822 : (Cond.instanceMethod yX11_points : Cond) ∈ WALL := wall_t (tw_8 _ (List.mem_of_getElem? (i := 30) (by decide +kernel))) rfl
theorem wd_1823 : (Cond.selects RX11 yX11_points yX11_points : Cond) ∈ WALL := wall_t (tw_8 _ (List.mem_of_getElem? (i := 31) (by decide +kernel))) rfl
theorem wd_1135 : (Cond.methodLink RL 199 yL_point : Cond) ∈ WALL := wall_t (tw_5 _ (List.mem_of_getElem? (i := 63) (by decide +kernel))) rfl
theorem wd_1136 : (Cond.static yL_point : Cond) ∈ WALL := wall_t (tw_5 _ (List.mem_of_getElem? (i := 64) (by decide +kernel))) rfl
theorem wd_1833 : (Cond.methodLink RL 201 yX11_point : Cond) ∈ WALL := wall_t (tw_8 _ (List.mem_of_getElem? (i := 41) (by decide +kernel))) rfl
theorem wd_1834 : (Cond.instanceMethod yX11_point : Cond) ∈ WALL := wall_t (tw_8 _ (List.mem_of_getElem? (i := 42) (by decide +kernel))) rfl
theorem wd_1835 : (Cond.selects RX11 yX11_point yX11_point : Cond) ∈ WALL := wall_t (tw_8 _ (List.mem_of_getElem? (i := 43) (by decide +kernel))) rfl
theorem wd_1147 : (Cond.methodLink RL 202 yL_lightest : Cond) ∈ WALL := wall_t (tw_5 _ (List.mem_of_getElem? (i := 75) (by decide +kernel))) rfl
theorem wd_1148 : (Cond.static yL_lightest : Cond) ∈ WALL := wall_t (tw_5 _ (List.mem_of_getElem? (i := 76) (by decide +kernel))) rfl
theorem wd_1891 : (Cond.methodLink RL 204 yX11_lightest : Cond) ∈ WALL := wall_t (tw_8 _ (List.mem_of_getElem? (i := 99) (by decide +kernel))) rfl
theorem wd_1892 : (Cond.instanceMethod yX11_lightest : Cond) ∈ WALL := wall_t (tw_8 _ (List.mem_of_getElem? (i := 100) (by decide +kernel))) rfl
theorem wd_1893 : (Cond.selects RX11 yX11_lightest yX11_lightest : Cond) ∈ WALL := wall_t (tw_8 _ (List.mem_of_getElem? (i := 101) (by decide +kernel))) rfl
theorem wd_1154 : (Cond.methodLink RL 205 yL_pointOf : Cond) ∈ WALL := wall_t (tw_5 _ (List.mem_of_getElem? (i := 82) (by decide +kernel))) rfl
theorem wd_1155 : (Cond.static yL_pointOf : Cond) ∈ WALL := wall_t (tw_5 _ (List.mem_of_getElem? (i := 83) (by decide +kernel))) rfl
theorem wd_1895 : (Cond.methodLink RL 207 yX11_pointOf : Cond) ∈ WALL := wall_t (tw_8 _ (List.mem_of_getElem? (i := 103) (by decide +kernel))) rfl
theorem wd_1896 : (Cond.instanceMethod yX11_pointOf : Cond) ∈ WALL := wall_t (tw_8 _ (List.mem_of_getElem? (i := 104) (by decide +kernel))) rfl
theorem wd_1897 : (Cond.selects RX11 yX11_pointOf yX11_pointOf : Cond) ∈ WALL := wall_t (tw_8 _ (List.mem_of_getElem? (i := 105) (by decide +kernel))) rfl
theorem wd_1162 : (Cond.methodLink RL 208 yL_beatenBy : Cond) ∈ WALL := wall_t (tw_5 _ (List.mem_of_getElem? (i := 90) (by decide +kernel))) rfl
theorem wd_1163 : (Cond.static yL_beatenBy : Cond) ∈ WALL := wall_t (tw_5 _ (List.mem_of_getElem? (i := 91) (by decide +kernel))) rfl
theorem wd_1899 : (Cond.methodLink RL 210 yX11_beatenBy : Cond) ∈ WALL := wall_t (tw_8 _ (List.mem_of_getElem? (i := 107) (by decide +kernel))) rfl
theorem wd_1900 : (Cond.instanceMethod yX11_beatenBy : Cond) ∈ WALL := wall_t (tw_8 _ (List.mem_of_getElem? (i := 108) (by decide +kernel))) rfl
theorem wd_1901 : (Cond.selects RX11 yX11_beatenBy yX11_beatenBy : Cond) ∈ WALL := wall_t (tw_8 _ (List.mem_of_getElem? (i := 109) (by decide +kernel))) rfl
theorem wd_804 : (Cond.methodLink RL 211 yX10_beating : Cond) ∈ WALL := wall_t (tw_3 _ (List.mem_of_getElem? (i := 212) (by decide +kernel))) rfl
theorem wd_805 : (Cond.instanceMethod yX10_beating : Cond) ∈ WALL := wall_t (tw_3 _ (List.mem_of_getElem? (i := 213) (by decide +kernel))) rfl
theorem wd_806 : (Cond.selects RX10 yX10_beating yX10_beating : Cond) ∈ WALL := wall_t (tw_3 _ (List.mem_of_getElem? (i := 214) (by decide +kernel))) rfl
theorem wd_1907 : (Cond.methodLink RL 214 yX11_beating : Cond) ∈ WALL := wall_t (tw_8 _ (List.mem_of_getElem? (i := 115) (by decide +kernel))) rfl
theorem wd_1908 : (Cond.instanceMethod yX11_beating : Cond) ∈ WALL := wall_t (tw_8 _ (List.mem_of_getElem? (i := 116) (by decide +kernel))) rfl
theorem wd_1909 : (Cond.selects RX11 yX11_beating yX11_beating : Cond) ∈ WALL := wall_t (tw_8 _ (List.mem_of_getElem? (i := 117) (by decide +kernel))) rfl
theorem wd_812 : (Cond.methodLink RL 215 yX10_joyFor : Cond) ∈ WALL := wall_t (tw_3 _ (List.mem_of_getElem? (i := 220) (by decide +kernel))) rfl
theorem wd_813 : (Cond.instanceMethod yX10_joyFor : Cond) ∈ WALL := wall_t (tw_3 _ (List.mem_of_getElem? (i := 221) (by decide +kernel))) rfl
theorem wd_814 : (Cond.selects RX10 yX10_joyFor yX10_joyFor : Cond) ∈ WALL := wall_t (tw_3 _ (List.mem_of_getElem? (i := 222) (by decide +kernel))) rfl
theorem wd_1911 : (Cond.methodLink RL 218 yX11_joyFor : Cond) ∈ WALL := wall_t (tw_8 _ (List.mem_of_getElem? (i := 119) (by decide +kernel))) rfl
theorem wd_1912 : (Cond.instanceMethod yX11_joyFor : Cond) ∈ WALL := wall_t (tw_8 _ (List.mem_of_getElem? (i := 120) (by decide +kernel))) rfl
theorem wd_1913 : (Cond.selects RX11 yX11_joyFor yX11_joyFor : Cond) ∈ WALL := wall_t (tw_8 _ (List.mem_of_getElem? (i := 121) (by decide +kernel))) rfl
theorem wd_816 : (Cond.methodLink RL 219 yX10_gainFor : Cond) ∈ WALL := wall_t (tw_3 _ (List.mem_of_getElem? (i := 224) (by decide +kernel))) rfl
theorem wd_817 : (Cond.instanceMethod yX10_gainFor : Cond) ∈ WALL := wall_t (tw_3 _ (List.mem_of_getElem? (i := 225) (by decide +kernel))) rfl
theorem wd_818 : (Cond.selects RX10 yX10_gainFor yX10_gainFor : Cond) ∈ WALL := wall_t (tw_3 _ (List.mem_of_getElem? (i := 226) (by decide +kernel))) rfl
theorem wd_1915 : (Cond.methodLink RL 222 yX11_gainFor : Cond) ∈ WALL := wall_t (tw_8 _ (List.mem_of_getElem? (i := 123) (by decide +kernel))) rfl
theorem wd_1916 : (Cond.instanceMethod yX11_gainFor : Cond) ∈ WALL := wall_t (tw_8 _ (List.mem_of_getElem? (i := 124) (by decide +kernel))) rfl
theorem wd_1917 : (Cond.selects RX11 yX11_gainFor yX11_gainFor : Cond) ∈ WALL := wall_t (tw_8 _ (List.mem_of_getElem? (i := 125) (by decide +kernel))) rfl
theorem wd_1169 : (Cond.methodLink RL 223 yL_best : Cond) ∈ WALL := wall_t (tw_5 _ (List.mem_of_getElem? (i := 97) (by decide +kernel))) rfl
theorem wd_1170 : (Cond.static yL_best : Cond) ∈ WALL := wall_t (tw_5 _ (List.mem_of_getElem? (i := 98) (by decide +kernel))) rfl
theorem wd_1919 : (Cond.methodLink RL 225 yX11_best : Cond) ∈ WALL := wall_t (tw_8 _ (List.mem_of_getElem? (i := 127) (by decide +kernel))) rfl
theorem wd_1920 : (Cond.instanceMethod yX11_best : Cond) ∈ WALL := wall_t (tw_8 _ (List.mem_of_getElem? (i := 128) (by decide +kernel))) rfl
theorem wd_1921 : (Cond.selects RX11 yX11_best yX11_best : Cond) ∈ WALL := wall_t (tw_8 _ (List.mem_of_getElem? (i := 129) (by decide +kernel))) rfl
theorem wd_1185 : (Cond.methodLink RL 226 yL_nearest : Cond) ∈ WALL := wall_t (tw_5 _ (List.mem_of_getElem? (i := 113) (by decide +kernel))) rfl
theorem wd_1186 : (Cond.static yL_nearest : Cond) ∈ WALL := wall_t (tw_5 _ (List.mem_of_getElem? (i := 114) (by decide +kernel))) rfl
theorem wd_1931 : (Cond.methodLink RL 228 yX11_nearest : Cond) ∈ WALL := wall_t (tw_8 _ (List.mem_of_getElem? (i := 139) (by decide +kernel))) rfl
theorem wd_1932 : (Cond.instanceMethod yX11_nearest : Cond) ∈ WALL := wall_t (tw_8 _ (List.mem_of_getElem? (i := 140) (by decide +kernel))) rfl
theorem wd_1933 : (Cond.selects RX11 yX11_nearest yX11_nearest : Cond) ∈ WALL := wall_t (tw_8 _ (List.mem_of_getElem? (i := 141) (by decide +kernel))) rfl
theorem wd_820 : (Cond.methodLink RL 229 yX10_vertices : Cond) ∈ WALL := wall_t (tw_3 _ (List.mem_of_getElem? (i := 228) (by decide +kernel))) rfl
theorem wd_821 : (Cond.instanceMethod yX10_vertices : Cond) ∈ WALL := wall_t (tw_3 _ (List.mem_of_getElem? (i := 229) (by decide +kernel))) rfl
theorem wd_822 : (Cond.selects RX10 yX10_vertices yX10_vertices : Cond) ∈ WALL := wall_t (tw_3 _ (List.mem_of_getElem? (i := 230) (by decide +kernel))) rfl
theorem wd_1939 : (Cond.methodLink RL 232 yX11_vertices : Cond) ∈ WALL := wall_t (tw_8 _ (List.mem_of_getElem? (i := 147) (by decide +kernel))) rfl
theorem wd_1940 : (Cond.instanceMethod yX11_vertices : Cond) ∈ WALL := wall_t (tw_8 _ (List.mem_of_getElem? (i := 148) (by decide +kernel))) rfl
theorem wd_1941 : (Cond.selects RX11 yX11_vertices yX11_vertices : Cond) ∈ WALL := wall_t (tw_8 _ (List.mem_of_getElem? (i := 149) (by decide +kernel))) rfl
theorem wd_1199 : (Cond.methodLink RL 233 yL_vertex : Cond) ∈ WALL := wall_t (tw_5 _ (List.mem_of_getElem? (i := 127) (by decide +kernel))) rfl
theorem wd_1200 : (Cond.static yL_vertex : Cond) ∈ WALL := wall_t (tw_5 _ (List.mem_of_getElem? (i := 128) (by decide +kernel))) rfl
theorem wd_1943 : (Cond.methodLink RL 235 yX11_vertex : Cond) ∈ WALL := wall_t (tw_8 _ (List.mem_of_getElem? (i := 151) (by decide +kernel))) rfl
theorem wd_1944 : (Cond.instanceMethod yX11_vertex : Cond) ∈ WALL := wall_t (tw_8 _ (List.mem_of_getElem? (i := 152) (by decide +kernel))) rfl
theorem wd_1945 : (Cond.selects RX11 yX11_vertex yX11_vertex : Cond) ∈ WALL := wall_t (tw_8 _ (List.mem_of_getElem? (i := 153) (by decide +kernel))) rfl
theorem wd_824 : (Cond.methodLink RL 236 yX10_supported : Cond) ∈ WALL := wall_t (tw_3 _ (List.mem_of_getElem? (i := 232) (by decide +kernel))) rfl
theorem wd_825 : (Cond.instanceMethod yX10_supported : Cond) ∈ WALL := wall_t (tw_3 _ (List.mem_of_getElem? (i := 233) (by decide +kernel))) rfl
theorem wd_826 : (Cond.selects RX10 yX10_supported yX10_supported : Cond) ∈ WALL := wall_t (tw_3 _ (List.mem_of_getElem? (i := 234) (by decide +kernel))) rfl
theorem wd_1947 : (Cond.methodLink RL 239 yX11_supported : Cond) ∈ WALL := wall_t (tw_8 _ (List.mem_of_getElem? (i := 155) (by decide +kernel))) rfl
theorem wd_1948 : (Cond.instanceMethod yX11_supported : Cond) ∈ WALL := wall_t (tw_8 _ (List.mem_of_getElem? (i := 156) (by decide +kernel))) rfl
theorem wd_1949 : (Cond.selects RX11 yX11_supported yX11_supported : Cond) ∈ WALL := wall_t (tw_8 _ (List.mem_of_getElem? (i := 157) (by decide +kernel))) rfl
theorem wd_1207 : (Cond.methodLink RL 240 yL_box : Cond) ∈ WALL := wall_t (tw_5 _ (List.mem_of_getElem? (i := 135) (by decide +kernel))) rfl
theorem wd_1208 : (Cond.static yL_box : Cond) ∈ WALL := wall_t (tw_5 _ (List.mem_of_getElem? (i := 136) (by decide +kernel))) rfl
theorem wd_1951 : (Cond.methodLink RL 242 yX11_box : Cond) ∈ WALL := wall_t (tw_8 _ (List.mem_of_getElem? (i := 159) (by decide +kernel))) rfl
theorem wd_1952 : (Cond.instanceMethod yX11_box : Cond) ∈ WALL := wall_t (tw_8 _ (List.mem_of_getElem? (i := 160) (by decide +kernel))) rfl
theorem wd_1953 : (Cond.selects RX11 yX11_box yX11_box : Cond) ∈ WALL := wall_t (tw_8 _ (List.mem_of_getElem? (i := 161) (by decide +kernel))) rfl
theorem wd_832 : (Cond.methodLink RL 243 yX10_steps : Cond) ∈ WALL := wall_t (tw_4 _ (List.mem_of_getElem? (i := 0) (by decide +kernel))) rfl
theorem wd_833 : (Cond.instanceMethod yX10_steps : Cond) ∈ WALL := wall_t (tw_4 _ (List.mem_of_getElem? (i := 1) (by decide +kernel))) rfl
theorem wd_834 : (Cond.selects RX10 yX10_steps yX10_steps : Cond) ∈ WALL := wall_t (tw_4 _ (List.mem_of_getElem? (i := 2) (by decide +kernel))) rfl
theorem wd_1967 : (Cond.methodLink RL 246 yX11_steps : Cond) ∈ WALL := wall_t (tw_8 _ (List.mem_of_getElem? (i := 175) (by decide +kernel))) rfl
theorem wd_1968 : (Cond.instanceMethod yX11_steps : Cond) ∈ WALL := wall_t (tw_8 _ (List.mem_of_getElem? (i := 176) (by decide +kernel))) rfl
theorem wd_1969 : (Cond.selects RX11 yX11_steps yX11_steps : Cond) ∈ WALL := wall_t (tw_8 _ (List.mem_of_getElem? (i := 177) (by decide +kernel))) rfl
theorem wd_1215 : (Cond.methodLink RL 247 yL_step : Cond) ∈ WALL := wall_t (tw_5 _ (List.mem_of_getElem? (i := 143) (by decide +kernel))) rfl
theorem wd_1216 : (Cond.static yL_step : Cond) ∈ WALL := wall_t (tw_5 _ (List.mem_of_getElem? (i := 144) (by decide +kernel))) rfl
theorem wd_1987 : (Cond.methodLink RL 249 yX11_step : Cond) ∈ WALL := wall_t (tw_8 _ (List.mem_of_getElem? (i := 195) (by decide +kernel))) rfl
theorem wd_1988 : (Cond.instanceMethod yX11_step : Cond) ∈ WALL := wall_t (tw_8 _ (List.mem_of_getElem? (i := 196) (by decide +kernel))) rfl
theorem wd_1989 : (Cond.selects RX11 yX11_step yX11_step : Cond) ∈ WALL := wall_t (tw_8 _ (List.mem_of_getElem? (i := 197) (by decide +kernel))) rfl
theorem wd_862 : (Cond.methodLink RL 250 yX10_fullest : Cond) ∈ WALL := wall_t (tw_4 _ (List.mem_of_getElem? (i := 30) (by decide +kernel))) rfl
theorem wd_863 : (Cond.instanceMethod yX10_fullest : Cond) ∈ WALL := wall_t (tw_4 _ (List.mem_of_getElem? (i := 31) (by decide +kernel))) rfl
theorem wd_864 : (Cond.selects RX10 yX10_fullest yX10_fullest : Cond) ∈ WALL := wall_t (tw_4 _ (List.mem_of_getElem? (i := 32) (by decide +kernel))) rfl
theorem wd_1963 : (Cond.methodLink RL 253 yX11_fullest : Cond) ∈ WALL := wall_t (tw_8 _ (List.mem_of_getElem? (i := 171) (by decide +kernel))) rfl
theorem wd_1964 : (Cond.instanceMethod yX11_fullest : Cond) ∈ WALL := wall_t (tw_8 _ (List.mem_of_getElem? (i := 172) (by decide +kernel))) rfl
theorem wd_1965 : (Cond.selects RX11 yX11_fullest yX11_fullest : Cond) ∈ WALL := wall_t (tw_8 _ (List.mem_of_getElem? (i := 173) (by decide +kernel))) rfl
theorem wd_866 : (Cond.methodLink RL 254 yX10_area : Cond) ∈ WALL := wall_t (tw_4 _ (List.mem_of_getElem? (i := 34) (by decide +kernel))) rfl
theorem wd_867 : (Cond.instanceMethod yX10_area : Cond) ∈ WALL := wall_t (tw_4 _ (List.mem_of_getElem? (i := 35) (by decide +kernel))) rfl
theorem wd_868 : (Cond.selects RX10 yX10_area yX10_area : Cond) ∈ WALL := wall_t (tw_4 _ (List.mem_of_getElem? (i := 36) (by decide +kernel))) rfl
theorem wd_1995 : (Cond.methodLink RL 257 yX11_area : Cond) ∈ WALL := wall_t (tw_8 _ (List.mem_of_getElem? (i := 203) (by decide +kernel))) rfl
theorem wd_1996 : (Cond.instanceMethod yX11_area : Cond) ∈ WALL := wall_t (tw_8 _ (List.mem_of_getElem? (i := 204) (by decide +kernel))) rfl
theorem wd_1997 : (Cond.selects RX11 yX11_area yX11_area : Cond) ∈ WALL := wall_t (tw_8 _ (List.mem_of_getElem? (i := 205) (by decide +kernel))) rfl
theorem wd_870 : (Cond.methodLink RL 258 yX10_knee : Cond) ∈ WALL := wall_t (tw_4 _ (List.mem_of_getElem? (i := 38) (by decide +kernel))) rfl
theorem wd_871 : (Cond.instanceMethod yX10_knee : Cond) ∈ WALL := wall_t (tw_4 _ (List.mem_of_getElem? (i := 39) (by decide +kernel))) rfl
theorem wd_872 : (Cond.selects RX10 yX10_knee yX10_knee : Cond) ∈ WALL := wall_t (tw_4 _ (List.mem_of_getElem? (i := 40) (by decide +kernel))) rfl
theorem wd_1991 : (Cond.methodLink RL 261 yX11_knee : Cond) ∈ WALL := wall_t (tw_8 _ (List.mem_of_getElem? (i := 199) (by decide +kernel))) rfl
theorem wd_1992 : (Cond.instanceMethod yX11_knee : Cond) ∈ WALL := wall_t (tw_8 _ (List.mem_of_getElem? (i := 200) (by decide +kernel))) rfl
theorem wd_1993 : (Cond.selects RX11 yX11_knee yX11_knee : Cond) ∈ WALL := wall_t (tw_8 _ (List.mem_of_getElem? (i := 201) (by decide +kernel))) rfl
theorem wd_874 : (Cond.methodLink RL 262 yX10_gap : Cond) ∈ WALL := wall_t (tw_4 _ (List.mem_of_getElem? (i := 42) (by decide +kernel))) rfl
theorem wd_875 : (Cond.instanceMethod yX10_gap : Cond) ∈ WALL := wall_t (tw_4 _ (List.mem_of_getElem? (i := 43) (by decide +kernel))) rfl
theorem wd_876 : (Cond.selects RX10 yX10_gap yX10_gap : Cond) ∈ WALL := wall_t (tw_4 _ (List.mem_of_getElem? (i := 44) (by decide +kernel))) rfl
theorem wd_2003 : (Cond.methodLink RL 265 yX11_gap : Cond) ∈ WALL := wall_t (tw_8 _ (List.mem_of_getElem? (i := 211) (by decide +kernel))) rfl
theorem wd_2004 : (Cond.instanceMethod yX11_gap : Cond) ∈ WALL := wall_t (tw_8 _ (List.mem_of_getElem? (i := 212) (by decide +kernel))) rfl
theorem wd_2005 : (Cond.selects RX11 yX11_gap yX11_gap : Cond) ∈ WALL := wall_t (tw_8 _ (List.mem_of_getElem? (i := 213) (by decide +kernel))) rfl
theorem wd_880 : (Cond.methodLink RL 266 yX10_core : Cond) ∈ WALL := wall_t (tw_4 _ (List.mem_of_getElem? (i := 48) (by decide +kernel))) rfl
theorem wd_881 : (Cond.instanceMethod yX10_core : Cond) ∈ WALL := wall_t (tw_4 _ (List.mem_of_getElem? (i := 49) (by decide +kernel))) rfl
theorem wd_882 : (Cond.selects RX10 yX10_core yX10_core : Cond) ∈ WALL := wall_t (tw_4 _ (List.mem_of_getElem? (i := 50) (by decide +kernel))) rfl
theorem wd_2011 : (Cond.methodLink RL 269 yX11_core : Cond) ∈ WALL := wall_t (tw_8 _ (List.mem_of_getElem? (i := 219) (by decide +kernel))) rfl
theorem wd_2012 : (Cond.instanceMethod yX11_core : Cond) ∈ WALL := wall_t (tw_8 _ (List.mem_of_getElem? (i := 220) (by decide +kernel))) rfl
theorem wd_2013 : (Cond.selects RX11 yX11_core yX11_core : Cond) ∈ WALL := wall_t (tw_8 _ (List.mem_of_getElem? (i := 221) (by decide +kernel))) rfl
theorem wd_888 : (Cond.methodLink RL 270 yX10_unused : Cond) ∈ WALL := wall_t (tw_4 _ (List.mem_of_getElem? (i := 56) (by decide +kernel))) rfl
theorem wd_889 : (Cond.instanceMethod yX10_unused : Cond) ∈ WALL := wall_t (tw_4 _ (List.mem_of_getElem? (i := 57) (by decide +kernel))) rfl
theorem wd_890 : (Cond.selects RX10 yX10_unused yX10_unused : Cond) ∈ WALL := wall_t (tw_4 _ (List.mem_of_getElem? (i := 58) (by decide +kernel))) rfl
theorem wd_2015 : (Cond.methodLink RL 273 yX11_unused : Cond) ∈ WALL := wall_t (tw_8 _ (List.mem_of_getElem? (i := 223) (by decide +kernel))) rfl
theorem wd_2016 : (Cond.instanceMethod yX11_unused : Cond) ∈ WALL := wall_t (tw_8 _ (List.mem_of_getElem? (i := 224) (by decide +kernel))) rfl
theorem wd_2017 : (Cond.selects RX11 yX11_unused yX11_unused : Cond) ∈ WALL := wall_t (tw_8 _ (List.mem_of_getElem? (i := 225) (by decide +kernel))) rfl
theorem wd_1239 : (Cond.methodLink RL 274 yL_lostWithout : Cond) ∈ WALL := wall_t (tw_5 _ (List.mem_of_getElem? (i := 167) (by decide +kernel))) rfl
theorem wd_1240 : (Cond.static yL_lostWithout : Cond) ∈ WALL := wall_t (tw_5 _ (List.mem_of_getElem? (i := 168) (by decide +kernel))) rfl
theorem wd_2019 : (Cond.methodLink RL 276 yX11_lostWithout : Cond) ∈ WALL := wall_t (tw_8 _ (List.mem_of_getElem? (i := 227) (by decide +kernel))) rfl
theorem wd_2020 : (Cond.instanceMethod yX11_lostWithout : Cond) ∈ WALL := wall_t (tw_8 _ (List.mem_of_getElem? (i := 228) (by decide +kernel))) rfl
theorem wd_2021 : (Cond.selects RX11 yX11_lostWithout yX11_lostWithout : Cond) ∈ WALL := wall_t (tw_8 _ (List.mem_of_getElem? (i := 229) (by decide +kernel))) rfl
theorem wd_1250 : (Cond.methodLink RL 277 yL_worth : Cond) ∈ WALL := wall_t (tw_5 _ (List.mem_of_getElem? (i := 178) (by decide +kernel))) rfl
theorem wd_1251 : (Cond.static yL_worth : Cond) ∈ WALL := wall_t (tw_5 _ (List.mem_of_getElem? (i := 179) (by decide +kernel))) rfl
theorem wd_2023 : (Cond.methodLink RL 279 yX11_worth : Cond) ∈ WALL := wall_t (tw_8 _ (List.mem_of_getElem? (i := 231) (by decide +kernel))) rfl
theorem wd_2024 : (Cond.instanceMethod yX11_worth : Cond) ∈ WALL := wall_t (tw_8 _ (List.mem_of_getElem? (i := 232) (by decide +kernel))) rfl
theorem wd_2025 : (Cond.selects RX11 yX11_worth yX11_worth : Cond) ∈ WALL := wall_t (tw_8 _ (List.mem_of_getElem? (i := 233) (by decide +kernel))) rfl
theorem wd_1258 : (Cond.methodLink RL 280 yL_pointsWith : Cond) ∈ WALL := wall_t (tw_5 _ (List.mem_of_getElem? (i := 186) (by decide +kernel))) rfl
theorem wd_1259 : (Cond.static yL_pointsWith : Cond) ∈ WALL := wall_t (tw_5 _ (List.mem_of_getElem? (i := 187) (by decide +kernel))) rfl
theorem wd_2027 : (Cond.methodLink RL 282 yX11_pointsWith : Cond) ∈ WALL := wall_t (tw_8 _ (List.mem_of_getElem? (i := 235) (by decide +kernel))) rfl
theorem wd_2028 : (Cond.instanceMethod yX11_pointsWith : Cond) ∈ WALL := wall_t (tw_8 _ (List.mem_of_getElem? (i := 236) (by decide +kernel))) rfl
theorem wd_2029 : (Cond.selects RX11 yX11_pointsWith yX11_pointsWith : Cond) ∈ WALL := wall_t (tw_8 _ (List.mem_of_getElem? (i := 237) (by decide +kernel))) rfl
theorem wd_892 : (Cond.methodLink RL 283 yX10_capacityFor : Cond) ∈ WALL := wall_t (tw_4 _ (List.mem_of_getElem? (i := 60) (by decide +kernel))) rfl
theorem wd_893 : (Cond.instanceMethod yX10_capacityFor : Cond) ∈ WALL := wall_t (tw_4 _ (List.mem_of_getElem? (i := 61) (by decide +kernel))) rfl
theorem wd_894 : (Cond.selects RX10 yX10_capacityFor yX10_capacityFor : Cond) ∈ WALL := wall_t (tw_4 _ (List.mem_of_getElem? (i := 62) (by decide +kernel))) rfl
theorem wd_2032 : (Cond.methodLink RL 286 yX11_capacityFor : Cond) ∈ WALL := wall_t (tw_9 _ (List.mem_of_getElem? (i := 0) (by decide +kernel))) rfl
theorem wd_2033 : (Cond.instanceMethod yX11_capacityFor : Cond) ∈ WALL := wall_t (tw_9 _ (List.mem_of_getElem? (i := 1) (by decide +kernel))) rfl
theorem wd_2034 : (Cond.selects RX11 yX11_capacityFor yX11_capacityFor : Cond) ∈ WALL := wall_t (tw_9 _ (List.mem_of_getElem? (i := 2) (by decide +kernel))) rfl
theorem wd_1273 : (Cond.methodLink RL 287 yL_nearTo : Cond) ∈ WALL := wall_t (tw_5 _ (List.mem_of_getElem? (i := 201) (by decide +kernel))) rfl
theorem wd_1274 : (Cond.static yL_nearTo : Cond) ∈ WALL := wall_t (tw_5 _ (List.mem_of_getElem? (i := 202) (by decide +kernel))) rfl
theorem wd_2040 : (Cond.methodLink RL 289 yX11_nearTo : Cond) ∈ WALL := wall_t (tw_9 _ (List.mem_of_getElem? (i := 8) (by decide +kernel))) rfl
theorem wd_2041 : (Cond.instanceMethod yX11_nearTo : Cond) ∈ WALL := wall_t (tw_9 _ (List.mem_of_getElem? (i := 9) (by decide +kernel))) rfl
theorem wd_2042 : (Cond.selects RX11 yX11_nearTo yX11_nearTo : Cond) ∈ WALL := wall_t (tw_9 _ (List.mem_of_getElem? (i := 10) (by decide +kernel))) rfl
theorem wd_1281 : (Cond.methodLink RL 290 yL_apart : Cond) ∈ WALL := wall_t (tw_5 _ (List.mem_of_getElem? (i := 209) (by decide +kernel))) rfl
theorem wd_1282 : (Cond.static yL_apart : Cond) ∈ WALL := wall_t (tw_5 _ (List.mem_of_getElem? (i := 210) (by decide +kernel))) rfl
theorem wd_2044 : (Cond.methodLink RL 292 yX11_apart : Cond) ∈ WALL := wall_t (tw_9 _ (List.mem_of_getElem? (i := 12) (by decide +kernel))) rfl
theorem wd_2045 : (Cond.instanceMethod yX11_apart : Cond) ∈ WALL := wall_t (tw_9 _ (List.mem_of_getElem? (i := 13) (by decide +kernel))) rfl
theorem wd_2046 : (Cond.selects RX11 yX11_apart yX11_apart : Cond) ∈ WALL := wall_t (tw_9 _ (List.mem_of_getElem? (i := 14) (by decide +kernel))) rfl
theorem wd_900 : (Cond.methodLink RL 293 yX10_layers : Cond) ∈ WALL := wall_t (tw_4 _ (List.mem_of_getElem? (i := 68) (by decide +kernel))) rfl
theorem wd_901 : (Cond.instanceMethod yX10_layers : Cond) ∈ WALL := wall_t (tw_4 _ (List.mem_of_getElem? (i := 69) (by decide +kernel))) rfl
theorem wd_902 : (Cond.selects RX10 yX10_layers yX10_layers : Cond) ∈ WALL := wall_t (tw_4 _ (List.mem_of_getElem? (i := 70) (by decide +kernel))) rfl
theorem wd_2048 : (Cond.methodLink RL 296 yX11_layers : Cond) ∈ WALL := wall_t (tw_9 _ (List.mem_of_getElem? (i := 16) (by decide +kernel))) rfl
theorem wd_2049 : (Cond.instanceMethod yX11_layers : Cond) ∈ WALL := wall_t (tw_9 _ (List.mem_of_getElem? (i := 17) (by decide +kernel))) rfl
theorem wd_2050 : (Cond.selects RX11 yX11_layers yX11_layers : Cond) ∈ WALL := wall_t (tw_9 _ (List.mem_of_getElem? (i := 18) (by decide +kernel))) rfl
theorem wd_1288 : (Cond.methodLink RL 297 yL_layerSize : Cond) ∈ WALL := wall_t (tw_5 _ (List.mem_of_getElem? (i := 216) (by decide +kernel))) rfl
theorem wd_1289 : (Cond.static yL_layerSize : Cond) ∈ WALL := wall_t (tw_5 _ (List.mem_of_getElem? (i := 217) (by decide +kernel))) rfl
theorem wd_2067 : (Cond.methodLink RL 299 yX11_layerSize : Cond) ∈ WALL := wall_t (tw_9 _ (List.mem_of_getElem? (i := 35) (by decide +kernel))) rfl
theorem wd_2068 : (Cond.instanceMethod yX11_layerSize : Cond) ∈ WALL := wall_t (tw_9 _ (List.mem_of_getElem? (i := 36) (by decide +kernel))) rfl
theorem wd_2069 : (Cond.selects RX11 yX11_layerSize yX11_layerSize : Cond) ∈ WALL := wall_t (tw_9 _ (List.mem_of_getElem? (i := 37) (by decide +kernel))) rfl
theorem wd_1296 : (Cond.methodLink RL 300 yL_layerOf : Cond) ∈ WALL := wall_t (tw_5 _ (List.mem_of_getElem? (i := 224) (by decide +kernel))) rfl
theorem wd_1297 : (Cond.static yL_layerOf : Cond) ∈ WALL := wall_t (tw_5 _ (List.mem_of_getElem? (i := 225) (by decide +kernel))) rfl
theorem wd_2071 : (Cond.methodLink RL 302 yX11_layerOf : Cond) ∈ WALL := wall_t (tw_9 _ (List.mem_of_getElem? (i := 39) (by decide +kernel))) rfl
theorem wd_2072 : (Cond.instanceMethod yX11_layerOf : Cond) ∈ WALL := wall_t (tw_9 _ (List.mem_of_getElem? (i := 40) (by decide +kernel))) rfl
theorem wd_2073 : (Cond.selects RX11 yX11_layerOf yX11_layerOf : Cond) ∈ WALL := wall_t (tw_9 _ (List.mem_of_getElem? (i := 41) (by decide +kernel))) rfl
theorem wd_1303 : (Cond.methodLink RL 303 yL_climb : Cond) ∈ WALL := wall_t (tw_5 _ (List.mem_of_getElem? (i := 231) (by decide +kernel))) rfl
theorem wd_1304 : (Cond.static yL_climb : Cond) ∈ WALL := wall_t (tw_5 _ (List.mem_of_getElem? (i := 232) (by decide +kernel))) rfl
theorem wd_2075 : (Cond.methodLink RL 305 yX11_climb : Cond) ∈ WALL := wall_t (tw_9 _ (List.mem_of_getElem? (i := 43) (by decide +kernel))) rfl
theorem wd_2076 : (Cond.instanceMethod yX11_climb : Cond) ∈ WALL := wall_t (tw_9 _ (List.mem_of_getElem? (i := 44) (by decide +kernel))) rfl
theorem wd_2077 : (Cond.selects RX11 yX11_climb yX11_climb : Cond) ∈ WALL := wall_t (tw_9 _ (List.mem_of_getElem? (i := 45) (by decide +kernel))) rfl
theorem wd_937 : (Cond.methodLink RL 306 yX10_share : Cond) ∈ WALL := wall_t (tw_4 _ (List.mem_of_getElem? (i := 105) (by decide +kernel))) rfl
theorem wd_938 : (Cond.instanceMethod yX10_share : Cond) ∈ WALL := wall_t (tw_4 _ (List.mem_of_getElem? (i := 106) (by decide +kernel))) rfl
theorem wd_939 : (Cond.selects RX10 yX10_share yX10_share : Cond) ∈ WALL := wall_t (tw_4 _ (List.mem_of_getElem? (i := 107) (by decide +kernel))) rfl
theorem wd_2095 : (Cond.methodLink RL 310 yX11_share : Cond) ∈ WALL := wall_t (tw_9 _ (List.mem_of_getElem? (i := 63) (by decide +kernel))) rfl
theorem wd_2096 : (Cond.instanceMethod yX11_share : Cond) ∈ WALL := wall_t (tw_9 _ (List.mem_of_getElem? (i := 64) (by decide +kernel))) rfl
theorem wd_2097 : (Cond.selects RX11 yX11_share yX11_share : Cond) ∈ WALL := wall_t (tw_9 _ (List.mem_of_getElem? (i := 65) (by decide +kernel))) rfl
theorem wd_1327 : (Cond.methodLink RL 311 yL_addItem : Cond) ∈ WALL := wall_t (tw_6 _ (List.mem_of_getElem? (i := 15) (by decide +kernel))) rfl
theorem wd_1328 : (Cond.static yL_addItem : Cond) ∈ WALL := wall_t (tw_6 _ (List.mem_of_getElem? (i := 16) (by decide +kernel))) rfl
theorem wd_2099 : (Cond.methodLink RL 314 yX11_addItem : Cond) ∈ WALL := wall_t (tw_9 _ (List.mem_of_getElem? (i := 67) (by decide +kernel))) rfl
theorem wd_2100 : (Cond.instanceMethod yX11_addItem : Cond) ∈ WALL := wall_t (tw_9 _ (List.mem_of_getElem? (i := 68) (by decide +kernel))) rfl
theorem wd_2101 : (Cond.selects RX11 yX11_addItem yX11_addItem : Cond) ∈ WALL := wall_t (tw_9 _ (List.mem_of_getElem? (i := 69) (by decide +kernel))) rfl
theorem wd_1336 : (Cond.methodLink RL 315 yL_dropItem : Cond) ∈ WALL := wall_t (tw_6 _ (List.mem_of_getElem? (i := 24) (by decide +kernel))) rfl
theorem wd_1337 : (Cond.static yL_dropItem : Cond) ∈ WALL := wall_t (tw_6 _ (List.mem_of_getElem? (i := 25) (by decide +kernel))) rfl
theorem wd_2103 : (Cond.methodLink RL 317 yX11_dropItem : Cond) ∈ WALL := wall_t (tw_9 _ (List.mem_of_getElem? (i := 71) (by decide +kernel))) rfl
theorem wd_2104 : (Cond.instanceMethod yX11_dropItem : Cond) ∈ WALL := wall_t (tw_9 _ (List.mem_of_getElem? (i := 72) (by decide +kernel))) rfl
theorem wd_2105 : (Cond.selects RX11 yX11_dropItem yX11_dropItem : Cond) ∈ WALL := wall_t (tw_9 _ (List.mem_of_getElem? (i := 73) (by decide +kernel))) rfl
theorem wd_1350 : (Cond.methodLink RL 318 yL_setItem : Cond) ∈ WALL := wall_t (tw_6 _ (List.mem_of_getElem? (i := 38) (by decide +kernel))) rfl
theorem wd_1351 : (Cond.static yL_setItem : Cond) ∈ WALL := wall_t (tw_6 _ (List.mem_of_getElem? (i := 39) (by decide +kernel))) rfl
theorem wd_2110 : (Cond.methodLink RL 320 yX11_setItem : Cond) ∈ WALL := wall_t (tw_9 _ (List.mem_of_getElem? (i := 78) (by decide +kernel))) rfl
theorem wd_2111 : (Cond.instanceMethod yX11_setItem : Cond) ∈ WALL := wall_t (tw_9 _ (List.mem_of_getElem? (i := 79) (by decide +kernel))) rfl
theorem wd_2112 : (Cond.selects RX11 yX11_setItem yX11_setItem : Cond) ∈ WALL := wall_t (tw_9 _ (List.mem_of_getElem? (i := 80) (by decide +kernel))) rfl
theorem wd_1357 : (Cond.methodLink RL 321 yL_setCapacity : Cond) ∈ WALL := wall_t (tw_6 _ (List.mem_of_getElem? (i := 45) (by decide +kernel))) rfl
theorem wd_1358 : (Cond.static yL_setCapacity : Cond) ∈ WALL := wall_t (tw_6 _ (List.mem_of_getElem? (i := 46) (by decide +kernel))) rfl
theorem wd_2114 : (Cond.methodLink RL 323 yX11_setCapacity : Cond) ∈ WALL := wall_t (tw_9 _ (List.mem_of_getElem? (i := 82) (by decide +kernel))) rfl
theorem wd_2115 : (Cond.instanceMethod yX11_setCapacity : Cond) ∈ WALL := wall_t (tw_9 _ (List.mem_of_getElem? (i := 83) (by decide +kernel))) rfl
theorem wd_2116 : (Cond.selects RX11 yX11_setCapacity yX11_setCapacity : Cond) ∈ WALL := wall_t (tw_9 _ (List.mem_of_getElem? (i := 84) (by decide +kernel))) rfl
theorem wd_1364 : (Cond.methodLink RL 324 yL_setLimit : Cond) ∈ WALL := wall_t (tw_6 _ (List.mem_of_getElem? (i := 52) (by decide +kernel))) rfl
theorem wd_1365 : (Cond.static yL_setLimit : Cond) ∈ WALL := wall_t (tw_6 _ (List.mem_of_getElem? (i := 53) (by decide +kernel))) rfl
theorem wd_2122 : (Cond.methodLink RL 326 yX11_setLimit : Cond) ∈ WALL := wall_t (tw_9 _ (List.mem_of_getElem? (i := 90) (by decide +kernel))) rfl
theorem wd_2123 : (Cond.instanceMethod yX11_setLimit : Cond) ∈ WALL := wall_t (tw_9 _ (List.mem_of_getElem? (i := 91) (by decide +kernel))) rfl
theorem wd_2124 : (Cond.selects RX11 yX11_setLimit yX11_setLimit : Cond) ∈ WALL := wall_t (tw_9 _ (List.mem_of_getElem? (i := 92) (by decide +kernel))) rfl
theorem wd_1372 : (Cond.methodLink RL 327 yL_bar : Cond) ∈ WALL := wall_t (tw_6 _ (List.mem_of_getElem? (i := 60) (by decide +kernel))) rfl
theorem wd_1373 : (Cond.static yL_bar : Cond) ∈ WALL := wall_t (tw_6 _ (List.mem_of_getElem? (i := 61) (by decide +kernel))) rfl
theorem wd_2127 : (Cond.methodLink RL 330 yX11_bar : Cond) ∈ WALL := wall_t (tw_9 _ (List.mem_of_getElem? (i := 95) (by decide +kernel))) rfl
theorem wd_2128 : (Cond.instanceMethod yX11_bar : Cond) ∈ WALL := wall_t (tw_9 _ (List.mem_of_getElem? (i := 96) (by decide +kernel))) rfl
theorem wd_2129 : (Cond.selects RX11 yX11_bar yX11_bar : Cond) ∈ WALL := wall_t (tw_9 _ (List.mem_of_getElem? (i := 97) (by decide +kernel))) rfl
theorem wd_1385 : (Cond.methodLink RL 331 yL_need : Cond) ∈ WALL := wall_t (tw_6 _ (List.mem_of_getElem? (i := 73) (by decide +kernel))) rfl
theorem wd_1386 : (Cond.static yL_need : Cond) ∈ WALL := wall_t (tw_6 _ (List.mem_of_getElem? (i := 74) (by decide +kernel))) rfl
theorem wd_2138 : (Cond.methodLink RL 333 yX11_need : Cond) ∈ WALL := wall_t (tw_9 _ (List.mem_of_getElem? (i := 106) (by decide +kernel))) rfl
theorem wd_2139 : (Cond.instanceMethod yX11_need : Cond) ∈ WALL := wall_t (tw_9 _ (List.mem_of_getElem? (i := 107) (by decide +kernel))) rfl
theorem wd_2140 : (Cond.selects RX11 yX11_need yX11_need : Cond) ∈ WALL := wall_t (tw_9 _ (List.mem_of_getElem? (i := 108) (by decide +kernel))) rfl
theorem wd_1392 : (Cond.methodLink RL 334 yL_must : Cond) ∈ WALL := wall_t (tw_6 _ (List.mem_of_getElem? (i := 80) (by decide +kernel))) rfl
theorem wd_1393 : (Cond.static yL_must : Cond) ∈ WALL := wall_t (tw_6 _ (List.mem_of_getElem? (i := 81) (by decide +kernel))) rfl
theorem wd_2142 : (Cond.methodLink RL 337 yX11_must : Cond) ∈ WALL := wall_t (tw_9 _ (List.mem_of_getElem? (i := 110) (by decide +kernel))) rfl
theorem wd_2143 : (Cond.instanceMethod yX11_must : Cond) ∈ WALL := wall_t (tw_9 _ (List.mem_of_getElem? (i := 111) (by decide +kernel))) rfl
theorem wd_2144 : (Cond.selects RX11 yX11_must yX11_must : Cond) ∈ WALL := wall_t (tw_9 _ (List.mem_of_getElem? (i := 112) (by decide +kernel))) rfl
theorem wd_1399 : (Cond.methodLink RL 338 yL_never : Cond) ∈ WALL := wall_t (tw_6 _ (List.mem_of_getElem? (i := 87) (by decide +kernel))) rfl
theorem wd_1400 : (Cond.static yL_never : Cond) ∈ WALL := wall_t (tw_6 _ (List.mem_of_getElem? (i := 88) (by decide +kernel))) rfl
theorem wd_2146 : (Cond.methodLink RL 340 yX11_never : Cond) ∈ WALL := wall_t (tw_9 _ (List.mem_of_getElem? (i := 114) (by decide +kernel))) rfl
theorem wd_2147 : (Cond.instanceMethod yX11_never : Cond) ∈ WALL := wall_t (tw_9 _ (List.mem_of_getElem? (i := 115) (by decide +kernel))) rfl
theorem wd_2148 : (Cond.selects RX11 yX11_never yX11_never : Cond) ∈ WALL := wall_t (tw_9 _ (List.mem_of_getElem? (i := 116) (by decide +kernel))) rfl
theorem wd_1406 : (Cond.methodLink RL 341 yL_choose : Cond) ∈ WALL := wall_t (tw_6 _ (List.mem_of_getElem? (i := 94) (by decide +kernel))) rfl
theorem wd_1407 : (Cond.static yL_choose : Cond) ∈ WALL := wall_t (tw_6 _ (List.mem_of_getElem? (i := 95) (by decide +kernel))) rfl
theorem wd_2150 : (Cond.methodLink RL 343 yX11_choose : Cond) ∈ WALL := wall_t (tw_9 _ (List.mem_of_getElem? (i := 118) (by decide +kernel))) rfl
theorem wd_2151 : (Cond.instanceMethod yX11_choose : Cond) ∈ WALL := wall_t (tw_9 _ (List.mem_of_getElem? (i := 119) (by decide +kernel))) rfl
theorem wd_2152 : (Cond.selects RX11 yX11_choose yX11_choose : Cond) ∈ WALL := wall_t (tw_9 _ (List.mem_of_getElem? (i := 120) (by decide +kernel))) rfl
theorem wd_1422 : (Cond.methodLink RL 344 yL_chooseBest : Cond) ∈ WALL := wall_t (tw_6 _ (List.mem_of_getElem? (i := 110) (by decide +kernel))) rfl
theorem wd_1423 : (Cond.static yL_chooseBest : Cond) ∈ WALL := wall_t (tw_6 _ (List.mem_of_getElem? (i := 111) (by decide +kernel))) rfl
theorem wd_2154 : (Cond.methodLink RL 346 yX11_chooseBest : Cond) ∈ WALL := wall_t (tw_9 _ (List.mem_of_getElem? (i := 122) (by decide +kernel))) rfl
theorem wd_2155 : (Cond.instanceMethod yX11_chooseBest : Cond) ∈ WALL := wall_t (tw_9 _ (List.mem_of_getElem? (i := 123) (by decide +kernel))) rfl
theorem wd_2156 : (Cond.selects RX11 yX11_chooseBest yX11_chooseBest : Cond) ∈ WALL := wall_t (tw_9 _ (List.mem_of_getElem? (i := 124) (by decide +kernel))) rfl
theorem wd_1430 : (Cond.methodLink RL 347 yL_improve : Cond) ∈ WALL := wall_t (tw_6 _ (List.mem_of_getElem? (i := 118) (by decide +kernel))) rfl
theorem wd_1431 : (Cond.static yL_improve : Cond) ∈ WALL := wall_t (tw_6 _ (List.mem_of_getElem? (i := 119) (by decide +kernel))) rfl
theorem wd_2158 : (Cond.methodLink RL 349 yX11_improve : Cond) ∈ WALL := wall_t (tw_9 _ (List.mem_of_getElem? (i := 126) (by decide +kernel))) rfl
theorem wd_2159 : (Cond.instanceMethod yX11_improve : Cond) ∈ WALL := wall_t (tw_9 _ (List.mem_of_getElem? (i := 127) (by decide +kernel))) rfl
theorem wd_2160 : (Cond.selects RX11 yX11_improve yX11_improve : Cond) ∈ WALL := wall_t (tw_9 _ (List.mem_of_getElem? (i := 128) (by decide +kernel))) rfl
theorem wd_1437 : (Cond.methodLink RL 350 yL_take : Cond) ∈ WALL := wall_t (tw_6 _ (List.mem_of_getElem? (i := 125) (by decide +kernel))) rfl
theorem wd_1438 : (Cond.static yL_take : Cond) ∈ WALL := wall_t (tw_6 _ (List.mem_of_getElem? (i := 126) (by decide +kernel))) rfl
theorem wd_2162 : (Cond.methodLink RL 352 yX11_take : Cond) ∈ WALL := wall_t (tw_9 _ (List.mem_of_getElem? (i := 130) (by decide +kernel))) rfl
theorem wd_2163 : (Cond.instanceMethod yX11_take : Cond) ∈ WALL := wall_t (tw_9 _ (List.mem_of_getElem? (i := 131) (by decide +kernel))) rfl
theorem wd_2164 : (Cond.selects RX11 yX11_take yX11_take : Cond) ∈ WALL := wall_t (tw_9 _ (List.mem_of_getElem? (i := 132) (by decide +kernel))) rfl
theorem wd_1445 : (Cond.methodLink RL 353 yL_leave : Cond) ∈ WALL := wall_t (tw_6 _ (List.mem_of_getElem? (i := 133) (by decide +kernel))) rfl
theorem wd_1446 : (Cond.static yL_leave : Cond) ∈ WALL := wall_t (tw_6 _ (List.mem_of_getElem? (i := 134) (by decide +kernel))) rfl
theorem wd_2170 : (Cond.methodLink RL 355 yX11_leave : Cond) ∈ WALL := wall_t (tw_9 _ (List.mem_of_getElem? (i := 138) (by decide +kernel))) rfl
theorem wd_2171 : (Cond.instanceMethod yX11_leave : Cond) ∈ WALL := wall_t (tw_9 _ (List.mem_of_getElem? (i := 139) (by decide +kernel))) rfl
theorem wd_2172 : (Cond.selects RX11 yX11_leave yX11_leave : Cond) ∈ WALL := wall_t (tw_9 _ (List.mem_of_getElem? (i := 140) (by decide +kernel))) rfl
theorem wd_1453 : (Cond.methodLink RL 356 yL_keep : Cond) ∈ WALL := wall_t (tw_6 _ (List.mem_of_getElem? (i := 141) (by decide +kernel))) rfl
theorem wd_1454 : (Cond.static yL_keep : Cond) ∈ WALL := wall_t (tw_6 _ (List.mem_of_getElem? (i := 142) (by decide +kernel))) rfl
theorem wd_2174 : (Cond.methodLink RL 358 yX11_keep : Cond) ∈ WALL := wall_t (tw_9 _ (List.mem_of_getElem? (i := 142) (by decide +kernel))) rfl
theorem wd_2175 : (Cond.instanceMethod yX11_keep : Cond) ∈ WALL := wall_t (tw_9 _ (List.mem_of_getElem? (i := 143) (by decide +kernel))) rfl
theorem wd_2176 : (Cond.selects RX11 yX11_keep yX11_keep : Cond) ∈ WALL := wall_t (tw_9 _ (List.mem_of_getElem? (i := 144) (by decide +kernel))) rfl
theorem wd_1464 : (Cond.methodLink RL 359 yL_restore : Cond) ∈ WALL := wall_t (tw_6 _ (List.mem_of_getElem? (i := 152) (by decide +kernel))) rfl
theorem wd_1465 : (Cond.static yL_restore : Cond) ∈ WALL := wall_t (tw_6 _ (List.mem_of_getElem? (i := 153) (by decide +kernel))) rfl
theorem wd_2181 : (Cond.methodLink RL 361 yX11_restore : Cond) ∈ WALL := wall_t (tw_9 _ (List.mem_of_getElem? (i := 149) (by decide +kernel))) rfl
theorem wd_2182 : (Cond.instanceMethod yX11_restore : Cond) ∈ WALL := wall_t (tw_9 _ (List.mem_of_getElem? (i := 150) (by decide +kernel))) rfl
theorem wd_2183 : (Cond.selects RX11 yX11_restore yX11_restore : Cond) ∈ WALL := wall_t (tw_9 _ (List.mem_of_getElem? (i := 151) (by decide +kernel))) rfl
theorem wd_1472 : (Cond.methodLink RL 362 yL_undo : Cond) ∈ WALL := wall_t (tw_6 _ (List.mem_of_getElem? (i := 160) (by decide +kernel))) rfl
theorem wd_1473 : (Cond.static yL_undo : Cond) ∈ WALL := wall_t (tw_6 _ (List.mem_of_getElem? (i := 161) (by decide +kernel))) rfl
theorem wd_2185 : (Cond.methodLink RL 365 yX11_undo : Cond) ∈ WALL := wall_t (tw_9 _ (List.mem_of_getElem? (i := 153) (by decide +kernel))) rfl
theorem wd_2186 : (Cond.instanceMethod yX11_undo : Cond) ∈ WALL := wall_t (tw_9 _ (List.mem_of_getElem? (i := 154) (by decide +kernel))) rfl
theorem wd_2187 : (Cond.selects RX11 yX11_undo yX11_undo : Cond) ∈ WALL := wall_t (tw_9 _ (List.mem_of_getElem? (i := 155) (by decide +kernel))) rfl
theorem wd_941 : (Cond.methodLink RL 366 yX10_undoCount : Cond) ∈ WALL := wall_t (tw_4 _ (List.mem_of_getElem? (i := 109) (by decide +kernel))) rfl
theorem wd_942 : (Cond.instanceMethod yX10_undoCount : Cond) ∈ WALL := wall_t (tw_4 _ (List.mem_of_getElem? (i := 110) (by decide +kernel))) rfl
theorem wd_943 : (Cond.selects RX10 yX10_undoCount yX10_undoCount : Cond) ∈ WALL := wall_t (tw_4 _ (List.mem_of_getElem? (i := 111) (by decide +kernel))) rfl
theorem wd_2189 : (Cond.methodLink RL 369 yX11_undoCount : Cond) ∈ WALL := wall_t (tw_9 _ (List.mem_of_getElem? (i := 157) (by decide +kernel))) rfl
theorem wd_2190 : (Cond.instanceMethod yX11_undoCount : Cond) ∈ WALL := wall_t (tw_9 _ (List.mem_of_getElem? (i := 158) (by decide +kernel))) rfl
theorem wd_2191 : (Cond.selects RX11 yX11_undoCount yX11_undoCount : Cond) ∈ WALL := wall_t (tw_9 _ (List.mem_of_getElem? (i := 159) (by decide +kernel))) rfl
theorem wd_945 : (Cond.methodLink RL 370 yX10_writeFrontier : Cond) ∈ WALL := wall_t (tw_4 _ (List.mem_of_getElem? (i := 113) (by decide +kernel))) rfl
theorem wd_946 : (Cond.instanceMethod yX10_writeFrontier : Cond) ∈ WALL := wall_t (tw_4 _ (List.mem_of_getElem? (i := 114) (by decide +kernel))) rfl
theorem wd_947 : (Cond.selects RX10 yX10_writeFrontier yX10_writeFrontier : Cond) ∈ WALL := wall_t (tw_4 _ (List.mem_of_getElem? (i := 115) (by decide +kernel))) rfl
theorem wd_2193 : (Cond.methodLink RL 373 yX11_writeFrontier : Cond) ∈ WALL := wall_t (tw_9 _ (List.mem_of_getElem? (i := 161) (by decide +kernel))) rfl
theorem wd_2194 : (Cond.instanceMethod yX11_writeFrontier : Cond) ∈ WALL := wall_t (tw_9 _ (List.mem_of_getElem? (i := 162) (by decide +kernel))) rfl
theorem wd_2195 : (Cond.selects RX11 yX11_writeFrontier yX11_writeFrontier : Cond) ∈ WALL := wall_t (tw_9 _ (List.mem_of_getElem? (i := 163) (by decide +kernel))) rfl
theorem wd_958 : (Cond.methodLink RL 374 yX10_writeChoices : Cond) ∈ WALL := wall_t (tw_4 _ (List.mem_of_getElem? (i := 126) (by decide +kernel))) rfl
theorem wd_959 : (Cond.instanceMethod yX10_writeChoices : Cond) ∈ WALL := wall_t (tw_4 _ (List.mem_of_getElem? (i := 127) (by decide +kernel))) rfl
theorem wd_960 : (Cond.selects RX10 yX10_writeChoices yX10_writeChoices : Cond) ∈ WALL := wall_t (tw_4 _ (List.mem_of_getElem? (i := 128) (by decide +kernel))) rfl
theorem wd_2205 : (Cond.methodLink RL 377 yX11_writeChoices : Cond) ∈ WALL := wall_t (tw_9 _ (List.mem_of_getElem? (i := 173) (by decide +kernel))) rfl
theorem wd_2206 : (Cond.instanceMethod yX11_writeChoices : Cond) ∈ WALL := wall_t (tw_9 _ (List.mem_of_getElem? (i := 174) (by decide +kernel))) rfl
theorem wd_2207 : (Cond.selects RX11 yX11_writeChoices yX11_writeChoices : Cond) ∈ WALL := wall_t (tw_9 _ (List.mem_of_getElem? (i := 175) (by decide +kernel))) rfl
theorem wd_1484 : (Cond.methodLink RL 378 yL_outputByte : Cond) ∈ WALL := wall_t (tw_6 _ (List.mem_of_getElem? (i := 172) (by decide +kernel))) rfl
theorem wd_1485 : (Cond.static yL_outputByte : Cond) ∈ WALL := wall_t (tw_6 _ (List.mem_of_getElem? (i := 173) (by decide +kernel))) rfl
theorem wd_2209 : (Cond.methodLink RL 380 yX11_outputByte : Cond) ∈ WALL := wall_t (tw_9 _ (List.mem_of_getElem? (i := 177) (by decide +kernel))) rfl
theorem wd_2210 : (Cond.instanceMethod yX11_outputByte : Cond) ∈ WALL := wall_t (tw_9 _ (List.mem_of_getElem? (i := 178) (by decide +kernel))) rfl
theorem wd_2211 : (Cond.selects RX11 yX11_outputByte yX11_outputByte : Cond) ∈ WALL := wall_t (tw_9 _ (List.mem_of_getElem? (i := 179) (by decide +kernel))) rfl
/-! THE LAW: what holds at each of its cases -/
theorem lw_tot {l : Launch} {y : MethodName} {ws : List Cond} {rm : Room} {Pc : Array Value → State → Prop} {Qc : Array Value → State → Outcome → State → Prop} {mc ms : Nat} {free : Addr → Prop} (h : vx_Met l y ws rm Pc Qc (fun (_ : String) (_ _ : State) => False) mc ms free) : Met l y ws rm Pc Qc mc ms free := by
  refine MetFree.mono h (fun _ _ z => z) (fun _ _ _ _ _ z => z) (fun a s o t _ hq => ?_)
  rcases hq with hq | ⟨q, -, E, ce, L, hf, -⟩
  · exact hq
  · exact hf.elim
theorem lw_sld {p : Program} {l : Launch} {e : Env} {R : Room} {s : State} {m : MethodId} {args : Array Value} {below : List Frame} {meth : Method} {c : Code} {H0 H : Heap} {locs : List Loc} {cells slots : Nat} {Q : State → Prop} {cc : ByteArray} {pc : Nat} {ls : Array Slot} {rest : List Value} {A : Nat → Prop} (hexec : p.tables.exec = Jvm.exec) (hb : c.code = cc) {b L : Nat} {xs : Nat → Int32} (hX : va_X b L xs s H0) (hbl : b < H0.size) (hbA : ¬ A b) (hS : va_S A H0 H locs) {i y : Int32} (hin : vp_in i L) (hy : xs i.toNatClampNeg = y) (hdg : decode cc pc = .ok (.iaload, 1))
    (kk : W p l e R s m args below meth c H locs cells slots Q (F0 m (pc + 1) ls (.int y :: rest))) : W p l e R s m args below meth c H locs cells slots Q (F0 m pc ls (.int i :: .ref b :: rest)) := by
  subst hy
  exact va_sld hexec hb hX hbl hbA hS hin hdg kk
def lw_same : List Bool → va_W → va_W → Prop
  | true :: bs, x :: ws, y :: ws' => x = y ∧ lw_same bs ws ws'
  | false :: bs, _ :: ws, _ :: ws' => lw_same bs ws ws'
  | [], [], [] => True
  | _, _, _ => False
theorem lw_same_at : ∀ {bs : List Bool} {ws ws' : va_W}, lw_same bs ws ws' → bs.length = ws'.length ∧ ∀ i : Nat, bs[i]? = some true → ws'[i]? = ws[i]?
  | [], [], [], _ => ⟨rfl, fun i h => by simp at h⟩
  | [], _ :: _, _, h => False.elim h
  | [], [], _ :: _, h => False.elim h
  | true :: bs, x :: ws, y :: ws', h => by
    obtain ⟨h1, h2⟩ := h
    obtain ⟨a, b⟩ := lw_same_at h2
    refine ⟨by simp [a], fun i hi => ?_⟩
    cases i with
    | zero => rw [h1]; rfl
    | succ i => exact b i hi
  | false :: bs, x :: ws, y :: ws', h => by
    obtain ⟨a, b⟩ := lw_same_at (bs := bs) (ws := ws) (ws' := ws') h
    refine ⟨by simp [a], fun i hi => ?_⟩
    cases i with
    | zero => simp at hi
    | succ i => exact b i hi
  | true :: _, [], _, h => False.elim h
  | true :: _, _ :: _, [], h => False.elim h
  | false :: _, [], _, h => False.elim h
  | false :: _, _ :: _, [], h => False.elim h
def lw_kb (bs : List Bool) (is : List Nat) : Bool := (List.range bs.length).all fun i => bs.getD i true || is.contains i
theorem lw_at {is : List Nat} {ws w : va_W} (e : is.map (fun i => ws[i]?) = w.map some) (k : Nat) (q : Nat × va_E) (hq : w[k]? = some q) : ∃ i, is[k]? = some i ∧ ws[i]? = some q := by
  have h1 : (is.map (fun i => ws[i]?))[k]? = some (some q) := by rw [e, List.getElem?_map, hq]; rfl
  rw [List.getElem?_map] at h1
  cases hi : is[k]? with
  | none => rw [hi] at h1; cases h1
  | some i => rw [hi] at h1; exact ⟨i, rfl, Option.some.inj h1⟩
theorem lw_sub {D : va_G} {cl : List vw_C} {ws ws' : va_W} {H : Heap} (h : va_P D cl ws H) (is : List Nat) (e : is.map (fun i => ws[i]?) = ws'.map some) : va_P D cl ws' H := by
  intro k q hk
  obtain ⟨i, -, h2⟩ := lw_at e k q hk
  exact h i q h2
theorem lw_join {A0 : Nat → Prop} {D : va_G} {cl : List vw_C} {ws wc w1 ws' : va_W} {H H1 : Heap} (hP : va_P D cl ws H) (hD : va_D A0 ws) (isC : List Nat) (bs : List Bool) (hC : isC.map (fun i => ws[i]?) = wc.map some) (hC' : isC.map (fun i => ws'[i]?) = w1.map some) (hs : lw_same bs ws ws') (hb : lw_kb bs isC = true)
    (hk : ∀ q : Nat, q < H.size → ¬ va_A wc H.size q → H1[q]? = H[q]?) (hF : ∀ q, va_A wc H.size q → A0 q) (hP1 : va_P D cl w1 H1) (hD1 : va_D (va_A wc H.size) w1) : va_P D cl ws' H1 ∧ va_D A0 ws' := by
  obtain ⟨sl, sa⟩ := lw_same_at hs
  have cs : ∀ (k : Nat) (q : Nat × va_E), ws'[k]? = some q → (∃ t : Nat, isC[t]? = some k ∧ w1[t]? = some q) ∨ (k ∉ isC ∧ ws[k]? = some q) := by
    intro k q hq
    by_cases c : k ∈ isC
    · obtain ⟨t, ht⟩ := List.getElem?_of_mem c
      refine Or.inl ⟨t, ht, ?_⟩
      have h1 : (isC.map (fun i => ws'[i]?))[t]? = some (some q) := by rw [List.getElem?_map, ht]; exact congrArg some hq
      rw [hC', List.getElem?_map] at h1
      cases hw : w1[t]? with
      | none => rw [hw] at h1; cases h1
      | some z => rw [hw] at h1; exact congrArg some (Option.some.inj (Option.some.inj h1))
    · refine Or.inr ⟨c, ?_⟩
      have hl : k < bs.length := by rw [sl]; exact (List.getElem?_eq_some_iff.mp hq).1
      have h1 := List.all_eq_true.mp hb k (List.mem_range.mpr hl)
      have h2 : bs[k]? = some true := by
        cases hz : bs[k]? with
        | none => rw [List.getElem?_eq_none_iff] at hz; omega
        | some z =>
          cases z with
          | true => rfl
          | false =>
            simp only [List.getD_eq_getElem?_getD, hz, Option.getD_some, Bool.false_or] at h1
            exact absurd (List.contains_iff_mem.mp h1) c
      rw [sa k h2] at hq
      exact hq
  have apart : ∀ (k : Nat) (q : Nat × va_E), k ∉ isC → ws[k]? = some q → q.1 < H.size ∧ ¬ va_A wc H.size q.1 := by
    intro k q hn hq
    refine ⟨(hP k q hq).lt, fun h => ?_⟩
    rcases h with ⟨k2, e, h⟩ | h
    · obtain ⟨j, h3, h4⟩ := lw_at hC k2 (q.1, e) h
      have hij := hD.1 k j q (q.1, e) hq h4 rfl
      subst hij
      exact hn (List.mem_of_getElem? h3)
    · exact Nat.lt_irrefl _ (Nat.lt_of_lt_of_le (hP k q hq).lt h)
  refine ⟨fun k q hq => ?_, fun i j x y hi hj hxy => ?_, fun k q hq => ?_⟩
  · rcases cs k q hq with ⟨t, h1, h2⟩ | ⟨h1, h2⟩
    · exact hP1 t q h2
    · obtain ⟨g1, g2⟩ := apart k q h1 h2
      exact (hP k q h2).kept (hk q.1 g1 g2)
  · rcases cs i x hi with ⟨t, h1, h2⟩ | ⟨h1, h2⟩
    · rcases cs j y hj with ⟨t2, g1, g2⟩ | ⟨g1, g2⟩
      · have := hD1.1 t t2 x y h2 g2 hxy
        subst this
        exact Option.some.inj (h1.symm.trans g1)
      · exact absurd (hxy ▸ hD1.2 t x h2) (apart j y g1 g2).2
    · rcases cs j y hj with ⟨t2, g1, g2⟩ | ⟨g1, g2⟩
      · exact absurd (hxy ▸ hD1.2 t2 y g2) (apart i x h1 h2).2
      · exact hD.1 i j x y h2 g2 hxy
  · rcases cs k q hq with ⟨t, h1, h2⟩ | ⟨h1, h2⟩
    · exact hF q.1 (hD1.2 t q h2)
    · exact hD.2 k q h2
/-- what holds all through the law -/
def LX (p : Program) (l : Launch) (s : State) (m : MethodId) (meth : Method) (c : Code) (b L : Nat) (xs : Nat → Int32) (D : va_G) (C : Nat → ClassId) (A : Nat → Prop) : Prop :=
  p.tables.exec = Jvm.exec ∧ c.code = cL_law ∧ meth.sig.returnType = ret ∧ c.maxLocals = 9 ∧ s.vm.findClass RL = some m.cls ∧ (∀ w ∈ WALL, w.before #[Value.ref b] s = true) ∧ va_X b L xs s s.heap ∧ b < s.heap.size ∧ ¬ A b ∧ (∀ q : Nat, s.heap.size ≤ q → A q) ∧ meth.locks = false ∧ va_K D vwCl (tyL C) s ∧ TX A s s.heap ∧ l.stackTraces = false
/-- the script's five numbers behind place x4 -/
def SC (L : Nat) (xs : Nat → Int32) (x4 y1 y2 y3 y4 y5 : Int32) : Prop := (vp_in (x4 + 1) L ∧ xs (x4 + 1).toNatClampNeg = y1) ∧ (vp_in (x4 + 2) L ∧ xs (x4 + 2).toNatClampNeg = y2) ∧ (vp_in (x4 + 3) L ∧ xs (x4 + 3).toNatClampNeg = y3) ∧ (vp_in (x4 + 4) L ∧ xs (x4 + 4).toNatClampNeg = y4) ∧ (vp_in (x4 + 5) L ∧ xs (x4 + 5).toNatClampNeg = y5)
abbrev wL (C : Nat → ClassId) (ad : Nat → Nat) (c0 : Int32) (c1 : Int32) (c2 : Int32) (c3 : Int32) (c4 : Int32) (c5 : Int32) (c6 : Int32) (c7 : Nat → Int32) (c8 : Nat → Int64) (c9 : Int32) (c10 : Int32) (c11 : Int32) (c12 : Int32) (c13 : Int32) (c14 : Int32) (c15 : Int32) (c16 : Int32) (c17 : Int32) (c18 : Int32) (c19 : Int32) (c20 : Int32) (c21 : Int32) (c22 : Int32) (c23 : Int32) (c24 : Int32) (c25 : Int32) (c26 : Int32) (c27 : Int32) (c28 : Int32) (c29 : Nat → Int32) (c30 : Int32) (c31 : Int32) (c32 : Int32) (c33 : Int32) (c34 : Int32) (c35 : Int32) (c36 : Int32) (c37 : Int32) (c38 : Int32) (c39 : Int32) (c40 : Nat → Int32) (c41 : Nat → Int32) (c42 : Nat → Int32) (c43 : Nat → Int32) (c44 : Nat → Int32) (c45 : Nat → Int32) (c46 : Nat → Int32) (c47 : Nat → Int32) (c48 : Nat → Int32) (c49 : Nat → Int32) (c50 : Int32) (c51 : Nat → Int32) (c52 : Int32) (c53 : Int32) (c54 : Int32) (c55 : Int32) (c56 : Nat → Int32) (c57 : Nat → Int32) (c58 : Nat → Int32) (c59 : Nat → Int32) (c60 : Nat → Int32) (c61 : Nat → Int32) (c62 : Nat → Int32) (c63 : Nat → Int32) (c64 : Nat → Int32) (c65 : Nat → Int32) (c66 : Nat → Int32) (c67 : Nat → Int32) (c68 : Nat → Int32) (c69 : Nat → Int32) (c70 : Nat → Int32) (c71 : Nat → Int32) (c72 : Nat → Int32) (c73 : Int32) (c74 : Nat → Int32) (c75 : Nat → Int32) (c76 : Nat → Int32) (c77 : Nat → Int32) (c78 : Int32) (c79 : Int32) (c80 : Int32) (c81 : Int32) (c82 : Int32) (c83 : Nat → Int32) (c84 : Nat → Int32) (c85 : Nat → Int32) (c86 : Nat → Int32) (c87 : Nat → Int32) (c88 : Nat → Int32) (c89 : Nat → Int32) (c90 : Nat → Int32) (c91 : Nat → Int32) (c92 : Nat → Int32) (c93 : Nat → Int32) (c94 : Int32) (c95 : Nat → Int32) (c96 : Nat → Int32) (c97 : Nat → Int32) (c98 : Nat → Int32) (c99 : Int32) (c100 : Int32) (c101 : Int32) (c102 : Int32) (c103 : Int32) (c104 : Int32) (c105 : Int32) (c106 : Nat → Int32) (c107 : Nat → Int32) (c108 : Int32) (c109 : Int32) (c110 : Int32) (c111 : Int32) (c112 : Int32) (c113 : Int32) (c114 : Nat → Int32) (c115 : Nat → Int32) (c116 : Nat → Int32) (c117 : Nat → Int32) (c118 : Nat → Int32) (c119 : Nat → Int32) (c120 : Nat → Int32) (c121 : Nat → Nat → Nat) (c122 : Nat → Nat → Int32) (c123 : Nat → Nat → Nat → Int32) (c124 : Nat → Nat → Nat) (c125 : Nat → Nat → Int32) (c126 : Nat → Nat → Nat → Int32) : va_W := ([((ad 0), .inr (10, [.ref (ad 1), .int c0, .ref (ad 2), .int c1, .int c2, .ref (ad 3), .ref (ad 4), .ref (ad 5), .ref (ad 6), .ref (ad 7), .ref (ad 8), .ref (ad 9), .ref (ad 10), .ref (ad 11), .ref (ad 12), .ref (ad 13), .int c3, .int c4, .int c5])), ((ad 7), .inr (4, [.ref (ad 14), .int c6])), ((ad 14), .inl (C 1, 15457, .inl c7)), ((ad 15), .inl (C 4, 1, .inr (.inl c8))), ((ad 16), .inr (11, [.int c9, .ref (ad 17), .ref (ad 18), .ref (ad 17), .int c10, .ref (ad 19), .int c11, .ref (ad 20), .ref (ad 21), .ref (ad 22), .ref (ad 23), .ref (ad 24), .ref (ad 25), .ref (ad 26), .int c12, .ref (ad 27), .int c13, .int c14, .ref (ad 28), .ref (ad 29), .int c15, .ref (ad 30), .int c16, .int c17, .int c18, .ref (ad 31), .int c19, .int c20, .int c21, .int c22, .int c23, .int c24, .int c25, .int c26, .ref (ad 32), .ref (ad 33), .ref (ad 34), .int c27, .ref (ad 35), .int c28])), ((ad 35), .inl (C 1, 16000, .inl c29)), ((ad 3), .inr (8, [.int c30, .int c31, .int c32, .int c33, .int c34, .int c35, .ref (ad 36), .ref (ad 37), .ref (ad 38), .ref (ad 39), .ref (ad 40)])), ((ad 8), .inr (0, [.ref (ad 41), .ref (ad 42), .ref (ad 43), .ref (ad 44), .ref (ad 45), .int c36, .int c37, .int c38, .int c39])), ((ad 41), .inl (C 0, 4096, .inl c40)), ((ad 36), .inl (C 0, 12, .inl c41)), ((ad 42), .inl (C 0, 4096, .inl c42)), ((ad 37), .inl (C 0, 12, .inl c43)), ((ad 43), .inl (C 0, 4096, .inl c44)), ((ad 38), .inl (C 0, 12, .inl c45)), ((ad 44), .inl (C 0, 4096, .inl c46)), ((ad 39), .inl (C 0, 12, .inl c47)), ((ad 45), .inl (C 0, 4096, .inl c48)), ((ad 40), .inl (C 0, 12, .inl c49)), ((ad 9), .inr (9, [.ref (ad 46), .int c50])), ((ad 46), .inl (C 0, 1189, .inl c51)), ((ad 10), .inr (2, [.ref (ad 47), .ref (ad 48), .ref (ad 49), .ref (ad 50), .ref (ad 51), .ref (ad 52), .ref (ad 53), .ref (ad 54), .ref (ad 55), .int c52, .int c53, .int c54, .int c55])), ((ad 54), .inl (C 0, 1189, .inl c56)), ((ad 47), .inl (C 0, 1189, .inl c57)), ((ad 48), .inl (C 0, 1189, .inl c58)), ((ad 49), .inl (C 0, 1189, .inl c59)), ((ad 50), .inl (C 0, 1189, .inl c60)), ((ad 51), .inl (C 0, 1189, .inl c61)), ((ad 52), .inl (C 0, 1189, .inl c62)), ((ad 53), .inl (C 0, 1189, .inl c63)), ((ad 19), .inl (C 0, 1189, .inl c64)), ((ad 17), .inl (C 0, 66, .inl c65)), ((ad 25), .inl (C 0, 1189, .inl c66)), ((ad 20), .inl (C 0, 1189, .inl c67)), ((ad 21), .inl (C 0, 1189, .inl c68)), ((ad 23), .inl (C 0, 1189, .inl c69)), ((ad 22), .inl (C 0, 1189, .inl c70)), ((ad 24), .inl (C 0, 1189, .inl c71)), ((ad 26), .inl (C 0, 1189, .inl c72)), ((ad 4), .inr (6, [.ref (ad 56), .int c73])), ((ad 34), .inl (C 0, 528, .inl c74)), ((ad 6), .inl (C 2, 2, .inl c75)), ((ad 33), .inl (C 2, 2, .inl c76)), ((ad 32), .inl (C 0, 132, .inl c77)), ((ad 13), .inr (1, [.int c78, .int c79, .int c80, .int c81])), ((ad 12), .inr (3, [.ref (ad 57), .ref (ad 58), .int c82, .ref (ad 59), .ref (ad 60), .ref (ad 61), .ref (ad 62), .ref (ad 63)])), ((ad 60), .inl (C 0, 1189, .inl c83)), ((ad 57), .inl (C 0, 4096, .inl c84)), ((ad 61), .inl (C 0, 4096, .inl c85)), ((ad 62), .inl (C 0, 1189, .inl c86)), ((ad 63), .inl (C 0, 4096, .inl c87)), ((ad 59), .inl (C 0, 2378, .inl c88)), ((ad 58), .inl (C 0, 2378, .inl c89)), ((ad 28), .inl (C 0, 4096, .inl c90)), ((ad 30), .inl (C 0, 4096, .inl c91)), ((ad 29), .inl (C 0, 4096, .inl c92)), ((ad 55), .inl (C 2, 1189, .inl c93)), ((ad 11), .inr (7, [.ref (ad 64), .ref (ad 65), .ref (ad 66), .int c94])), ((ad 64), .inl (C 0, 2378, .inl c95)), ((ad 65), .inl (C 0, 2378, .inl c96)), ((ad 66), .inl (C 0, 2378, .inl c97)), ((ad 27), .inl (C 0, 7134, .inl c98)), ((ad 2), .inr (5, [.ref (ad 67), .int c99, .int c100, .ref (ad 68), .int c101, .int c102, .int c103, .int c104, .int c105])), ((ad 1), .inl (C 1, 600, .inl c106)), ((ad 68), .inl (C 1, 600, .inl c107)), ((ad 67), .inr (8, [.int c108, .int c109, .int c110, .int c111, .int c112, .int c113, .ref (ad 69), .ref (ad 70), .ref (ad 71), .ref (ad 72), .ref (ad 73)])), ((ad 69), .inl (C 0, 12, .inl c114)), ((ad 70), .inl (C 0, 12, .inl c115)), ((ad 71), .inl (C 0, 12, .inl c116)), ((ad 72), .inl (C 0, 12, .inl c117)), ((ad 73), .inl (C 0, 12, .inl c118)), ((ad 18), .inl (C 0, 66, .inl c119)), ((ad 31), .inl (C 1, 600, .inl c120))] ++ famW8 C (ad 56) c121 c122 c123 ++ famW2 C (ad 5) c124 c125 c126)
