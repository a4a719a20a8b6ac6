section
set_option maxRecDepth 100000 in
theorem mo_100 : MOK 100 := mchk_ok (i1 := 1639) (q := (122, 1637, 1638)) (y := yX12_delivers) (cc := cX12_delivers) (n := 2) (rt := (some .int)) (st := false) rfl rfl rfl (by decide +kernel)
set_option maxRecDepth 100000 in
theorem mo_101 : MOK 101 := mchk_ok (i1 := 1659) (q := (122, 1658, 80)) (y := yX12_isBreach) (cc := cX12_isBreach) (n := 4) (rt := (some .boolean)) (st := false) rfl rfl rfl (by decide +kernel)
set_option maxRecDepth 100000 in
theorem mo_102 : MOK 102 := mchk_ok (i1 := 1647) (q := (122, 1645, 1646)) (y := yX12_breach) (cc := cX12_breach) (n := 5) (rt := (some .int)) (st := false) rfl rfl rfl (by decide +kernel)
set_option maxRecDepth 100000 in
theorem mo_103 : MOK 103 := mchk_ok (i1 := 1655) (q := (122, 1654, 79)) (y := yX12_triesAs) (cc := cX12_triesAs) (n := 3) (rt := none) (st := false) rfl rfl rfl (by decide +kernel)
set_option maxRecDepth 100000 in
theorem mo_104 : MOK 104 := mchk_ok (i1 := 1651) (q := (122, 1649, 1650)) (y := yX12_risk) (cc := cX12_risk) (n := 3) (rt := (some .int)) (st := false) rfl rfl rfl (by decide +kernel)
set_option maxRecDepth 100000 in
theorem mo_105 : MOK 105 := mchk_ok (i1 := 1663) (q := (122, 1661, 1662)) (y := yX12_loud) (cc := cX12_loud) (n := 6) (rt := (some .int)) (st := false) rfl rfl rfl (by decide +kernel)
set_option maxRecDepth 100000 in
theorem mo_106 : MOK 106 := mchk_ok (i1 := 1666) (q := (122, 1665, 0)) (y := yX12_bitsOf) (cc := cX12_bitsOf) (n := 3) (rt := (some .int)) (st := true) rfl rfl rfl (by decide +kernel)
set_option maxRecDepth 100000 in
theorem mo_107 : MOK 107 := mchk_ok (i1 := 1670) (q := (122, 1668, 1669)) (y := yX12_turned) (cc := cX12_turned) (n := 8) (rt := (some .int)) (st := false) rfl rfl rfl (by decide +kernel)
set_option maxRecDepth 100000 in
theorem mo_108 : MOK 108 := mchk_ok (i1 := 1682) (q := (122, 1681, 82)) (y := yX12_acts) (cc := cX12_acts) (n := 7) (rt := (some .boolean)) (st := false) rfl rfl rfl (by decide +kernel)
set_option maxRecDepth 100000 in
theorem mo_109 : MOK 109 := mchk_ok (i1 := 1678) (q := (122, 1677, 81)) (y := yX12_actsAll) (cc := cX12_actsAll) (n := 4) (rt := (some .int)) (st := false) rfl rfl rfl (by decide +kernel)
set_option maxRecDepth 100000 in
theorem mo_110 : MOK 110 := mchk_ok (i1 := 1674) (q := (122, 1672, 1673)) (y := yX12_judge) (cc := cX12_judge) (n := 8) (rt := (some .int)) (st := false) rfl rfl rfl (by decide +kernel)
set_option maxRecDepth 100000 in
theorem mo_111 : MOK 111 := mchk_ok (i1 := 1692) (q := (122, 1690, 1691)) (y := yX12_perform) (cc := cX12_perform) (n := 3) (rt := (some .int)) (st := false) rfl rfl rfl (by decide +kernel)
set_option maxRecDepth 100000 in
theorem mo_112 : MOK 112 := mchk_ok (i1 := 1700) (q := (122, 1699, 83)) (y := yX12_draw) (cc := cX12_draw) (n := 2) (rt := (some .int)) (st := false) rfl rfl rfl (by decide +kernel)
set_option maxRecDepth 100000 in
theorem mo_113 : MOK 113 := mchk_ok (i1 := 1696) (q := (122, 1694, 1695)) (y := yX12_day) (cc := cX12_day) (n := 7) (rt := (some .int)) (st := false) rfl rfl rfl (by decide +kernel)
set_option maxRecDepth 100000 in
theorem mo_114 : MOK 114 := mchk_ok (i1 := 1709) (q := (122, 1708, 84)) (y := yX12_areThings) (cc := cX12_areThings) (n := 3) (rt := (some .boolean)) (st := false) rfl rfl rfl (by decide +kernel)
set_option maxRecDepth 100000 in
theorem mo_115 : MOK 115 := mchk_ok (i1 := 1721) (q := (122, 1720, 87)) (y := yX12_nextAt) (cc := cX12_nextAt) (n := 5) (rt := (some .int)) (st := false) rfl rfl rfl (by decide +kernel)
set_option maxRecDepth 100000 in
theorem mo_116 : MOK 116 := mchk_ok (i1 := 1717) (q := (122, 1716, 86)) (y := yX12_driven) (cc := cX12_driven) (n := 8) (rt := (some .int)) (st := false) rfl rfl rfl (by decide +kernel)
set_option maxRecDepth 100000 in
theorem mo_117 : MOK 117 := mchk_ok (i1 := 1713) (q := (122, 1712, 85)) (y := yX12_freshOf) (cc := cX12_freshOf) (n := 7) (rt := (some .int)) (st := false) rfl rfl rfl (by decide +kernel)
set_option maxRecDepth 100000 in
theorem mo_118 : MOK 118 := mchk_ok (i1 := 1705) (q := (122, 1703, 1704)) (y := yX12_fresh) (cc := cX12_fresh) (n := 4) (rt := (some .int)) (st := false) rfl rfl rfl (by decide +kernel)
set_option maxRecDepth 100000 in
theorem mo_119 : MOK 119 := mchk_ok (i1 := 1725) (q := (122, 1723, 1724)) (y := yX12_kept) (cc := cX12_kept) (n := 4) (rt := (some .int)) (st := false) rfl rfl rfl (by decide +kernel)
set_option maxRecDepth 100000 in
theorem mo_120 : MOK 120 := mchk_ok (i1 := 1729) (q := (122, 1727, 1728)) (y := yX12_less) (cc := cX12_less) (n := 3) (rt := (some .int)) (st := false) rfl rfl rfl (by decide +kernel)
set_option maxRecDepth 100000 in
theorem mo_121 : MOK 121 := mchk_ok (i1 := 1733) (q := (122, 1731, 1732)) (y := yX12_enough) (cc := cX12_enough) (n := 5) (rt := (some .int)) (st := false) rfl rfl rfl (by decide +kernel)
set_option maxRecDepth 100000 in
theorem mo_122 : MOK 122 := mchk_ok (i1 := 1737) (q := (122, 1735, 1736)) (y := yX12_farBack) (cc := cX12_farBack) (n := 5) (rt := (some .int)) (st := false) rfl rfl rfl (by decide +kernel)
set_option maxRecDepth 100000 in
theorem mo_123 : MOK 123 := mchk_ok (i1 := 1749) (q := (122, 1748, 89)) (y := yX12_throughOf) (cc := cX12_throughOf) (n := 5) (rt := (some .int)) (st := false) rfl rfl rfl (by decide +kernel)
set_option maxRecDepth 100000 in
theorem mo_124 : MOK 124 := mchk_ok (i1 := 1745) (q := (122, 1744, 88)) (y := yX12_tellsRow) (cc := cX12_tellsRow) (n := 3) (rt := none) (st := false) rfl rfl rfl (by decide +kernel)
set_option maxRecDepth 100000 in
theorem mo_125 : MOK 125 := mchk_ok (i1 := 1741) (q := (122, 1739, 1740)) (y := yX12_through) (cc := cX12_through) (n := 4) (rt := (some .int)) (st := false) rfl rfl rfl (by decide +kernel)
set_option maxRecDepth 100000 in
theorem mo_126 : MOK 126 := mchk_ok (i1 := 1753) (q := (122, 1751, 1752)) (y := yX12_sizeFor) (cc := cX12_sizeFor) (n := 5) (rt := (some .int)) (st := false) rfl rfl rfl (by decide +kernel)
set_option maxRecDepth 100000 in
theorem mo_127 : MOK 127 := mchk_ok (i1 := 1767) (q := (122, 1766, 91)) (y := yX12_tellsAll) (cc := cX12_tellsAll) (n := 7) (rt := none) (st := false) rfl rfl rfl (by decide +kernel)
set_option maxRecDepth 100000 in
theorem mo_128 : MOK 128 := mchk_ok (i1 := 1757) (q := (122, 1755, 1756)) (y := yX12_told) (cc := cX12_told) (n := 5) (rt := (some .int)) (st := false) rfl rfl rfl (by decide +kernel)
set_option maxRecDepth 100000 in
theorem mo_129 : MOK 129 := mchk_ok (i1 := 1775) (q := (122, 1774, 92)) (y := yX12_backOf) (cc := cX12_backOf) (n := 5) (rt := (some .int)) (st := false) rfl rfl rfl (by decide +kernel)
set_option maxRecDepth 100000 in
theorem mo_130 : MOK 130 := mchk_ok (i1 := 1771) (q := (122, 1769, 1770)) (y := yX12_back) (cc := cX12_back) (n := 2) (rt := (some .int)) (st := false) rfl rfl rfl (by decide +kernel)
set_option maxRecDepth 100000 in
theorem mo_131 : MOK 131 := mchk_ok (i1 := 1779) (q := (122, 1777, 1778)) (y := yX12_seeds) (cc := cX12_seeds) (n := 5) (rt := (some .int)) (st := false) rfl rfl rfl (by decide +kernel)
set_option maxRecDepth 100000 in
theorem mo_132 : MOK 132 := mchk_ok (i1 := 1799) (q := (122, 1798, 96)) (y := yX12_canCarry) (cc := cX12_canCarry) (n := 4) (rt := (some .boolean)) (st := false) rfl rfl rfl (by decide +kernel)
set_option maxRecDepth 100000 in
theorem mo_133 : MOK 133 := mchk_ok (i1 := 1803) (q := (122, 1802, 97)) (y := yX12_leftIn) (cc := cX12_leftIn) (n := 6) (rt := (some .int)) (st := false) rfl rfl rfl (by decide +kernel)
set_option maxRecDepth 100000 in
theorem mo_134 : MOK 134 := mchk_ok (i1 := 1807) (q := (122, 1806, 98)) (y := yX12_without) (cc := cX12_without) (n := 5) (rt := (some .int)) (st := false) rfl rfl rfl (by decide +kernel)
set_option maxRecDepth 100000 in
theorem mo_135 : MOK 135 := mchk_ok (i1 := 1795) (q := (122, 1794, 95)) (y := yX12_asThings) (cc := cX12_asThings) (n := 4) (rt := (some .int)) (st := false) rfl rfl rfl (by decide +kernel)
set_option maxRecDepth 100000 in
theorem mo_136 : MOK 136 := mchk_ok (i1 := 1791) (q := (122, 1790, 94)) (y := yX12_laysMen) (cc := cX12_laysMen) (n := 15) (rt := (some .int)) (st := false) rfl rfl rfl (by decide +kernel)
set_option maxRecDepth 100000 in
theorem mo_137 : MOK 137 := mchk_ok (i1 := 1787) (q := (122, 1786, 93)) (y := yX12_refusesMen) (cc := cX12_refusesMen) (n := 4) (rt := (some .int)) (st := false) rfl rfl rfl (by decide +kernel)
set_option maxRecDepth 100000 in
theorem mo_138 : MOK 138 := mchk_ok (i1 := 1783) (q := (122, 1781, 1782)) (y := yX12_men) (cc := cX12_men) (n := 5) (rt := (some .int)) (st := false) rfl rfl rfl (by decide +kernel)
set_option maxRecDepth 100000 in
theorem mo_139 : MOK 139 := mchk_ok (i1 := 1811) (q := (122, 1809, 1810)) (y := yX12_load) (cc := cX12_load) (n := 10) (rt := (some .int)) (st := false) rfl rfl rfl (by decide +kernel)
set_option maxRecDepth 100000 in
theorem mo_140 : MOK 140 := mchk_ok (i1 := 1827) (q := (122, 1826, 100)) (y := yX12_isBest) (cc := cX12_isBest) (n := 4) (rt := none) (st := false) rfl rfl rfl (by decide +kernel)
set_option maxRecDepth 100000 in
theorem mo_141 : MOK 141 := mchk_ok (i1 := 1823) (q := (122, 1822, 99)) (y := yX12_rowsOf) (cc := cX12_rowsOf) (n := 7) (rt := none) (st := false) rfl rfl rfl (by decide +kernel)
set_option maxRecDepth 100000 in
theorem mo_142 : MOK 142 := mchk_ok (i1 := 1831) (q := (122, 1830, 101)) (y := yX12_toldBest) (cc := cX12_toldBest) (n := 2) (rt := (some .int)) (st := false) rfl rfl rfl (by decide +kernel)
set_option maxRecDepth 100000 in
theorem mo_143 : MOK 143 := mchk_ok (i1 := 1818) (q := (122, 1817, 0)) (y := yX12_isWhat) (cc := cX12_isWhat) (n := 1) (rt := (some .boolean)) (st := true) rfl rfl rfl (by decide +kernel)
set_option maxRecDepth 100000 in
theorem mo_144 : MOK 144 := mchk_ok (i1 := 1815) (q := (122, 1813, 1814)) (y := yX12_road) (cc := cX12_road) (n := 5) (rt := (some .int)) (st := false) rfl rfl rfl (by decide +kernel)
set_option maxRecDepth 100000 in
theorem mo_145 : MOK 145 := mchk_ok (i1 := 1835) (q := (122, 1833, 1834)) (y := yX12_questions) (cc := cX12_questions) (n := 6) (rt := (some .int)) (st := false) rfl rfl rfl (by decide +kernel)
set_option maxRecDepth 100000 in
theorem mo_146 : MOK 146 := mchk_ok (i1 := 1839) (q := (122, 1837, 1838)) (y := yX12_asked) (cc := cX12_asked) (n := 7) (rt := (some .int)) (st := false) rfl rfl rfl (by decide +kernel)
set_option maxRecDepth 100000 in
theorem mo_147 : MOK 147 := mchk_ok (i1 := 1843) (q := (122, 1841, 1842)) (y := yX12_broken) (cc := cX12_broken) (n := 5) (rt := (some .int)) (st := false) rfl rfl rfl (by decide +kernel)
set_option maxRecDepth 100000 in
theorem mo_148 : MOK 148 := mchk_ok (i1 := 1847) (q := (122, 1845, 1846)) (y := yX12_piece) (cc := cX12_piece) (n := 4) (rt := (some .int)) (st := false) rfl rfl rfl (by decide +kernel)
set_option maxRecDepth 100000 in
theorem mo_149 : MOK 149 := mchk_ok (i1 := 1860) (q := (122, 1859, 103)) (y := yX12_stands) (cc := cX12_stands) (n := 6) (rt := (some .boolean)) (st := false) rfl rfl rfl (by decide +kernel)
set_option maxRecDepth 100000 in
theorem mo_150 : MOK 150 := mchk_ok (i1 := 1856) (q := (122, 1855, 102)) (y := yX12_isWithin) (cc := cX12_isWithin) (n := 4) (rt := (some .boolean)) (st := false) rfl rfl rfl (by decide +kernel)
set_option maxRecDepth 100000 in
theorem mo_151 : MOK 151 := mchk_ok (i1 := 1872) (q := (122, 1871, 106)) (y := yX12_lays) (cc := cX12_lays) (n := 7) (rt := (some .int)) (st := false) rfl rfl rfl (by decide +kernel)
set_option maxRecDepth 100000 in
theorem mo_152 : MOK 152 := mchk_ok (i1 := 1868) (q := (122, 1867, 105)) (y := yX12_isFirst) (cc := cX12_isFirst) (n := 3) (rt := (some .boolean)) (st := false) rfl rfl rfl (by decide +kernel)
set_option maxRecDepth 100000 in
theorem mo_153 : MOK 153 := mchk_ok (i1 := 1864) (q := (122, 1863, 104)) (y := yX12_joins) (cc := cX12_joins) (n := 4) (rt := none) (st := false) rfl rfl rfl (by decide +kernel)
set_option maxRecDepth 100000 in
theorem mo_154 : MOK 154 := mchk_ok (i1 := 1852) (q := (122, 1850, 1851)) (y := yX12_joined) (cc := cX12_joined) (n := 4) (rt := (some .int)) (st := false) rfl rfl rfl (by decide +kernel)
set_option maxRecDepth 100000 in
theorem mo_155 : MOK 155 := mchk_ok (i1 := 1884) (q := (122, 1883, 108)) (y := yX12_firstIn) (cc := cX12_firstIn) (n := 4) (rt := (some .int)) (st := false) rfl rfl rfl (by decide +kernel)
set_option maxRecDepth 100000 in
theorem mo_156 : MOK 156 := mchk_ok (i1 := 1880) (q := (122, 1879, 107)) (y := yX12_areUnfit) (cc := cX12_areUnfit) (n := 5) (rt := (some .boolean)) (st := false) rfl rfl rfl (by decide +kernel)
set_option maxRecDepth 100000 in
theorem mo_157 : MOK 157 := mchk_ok (i1 := 1876) (q := (122, 1874, 1875)) (y := yX12_unfit) (cc := cX12_unfit) (n := 3) (rt := (some .int)) (st := false) rfl rfl rfl (by decide +kernel)
set_option maxRecDepth 100000 in
theorem mo_158 : MOK 158 := mchk_ok (i1 := 1888) (q := (122, 1886, 1887)) (y := yX12_gaps) (cc := cX12_gaps) (n := 4) (rt := (some .int)) (st := false) rfl rfl rfl (by decide +kernel)
set_option maxRecDepth 100000 in
theorem mo_159 : MOK 159 := mchk_ok (i1 := 1902) (q := (122, 1901, 0)) (y := yX12_cut) (cc := cX12_cut) (n := 3) (rt := (some .long)) (st := true) rfl rfl rfl (by decide +kernel)
set_option maxRecDepth 100000 in
theorem mo_160 : MOK 160 := mchk_ok (i1 := 1892) (q := (122, 1890, 1891)) (y := yX12_numbers) (cc := cX12_numbers) (n := 5) (rt := (some .int)) (st := false) rfl rfl rfl (by decide +kernel)
set_option maxRecDepth 100000 in
theorem mo_161 : MOK 161 := mchk_ok (i1 := 1896) (q := (122, 1894, 1895)) (y := yX12_write) (cc := cX12_write) (n := 5) (rt := (some .long)) (st := false) rfl rfl rfl (by decide +kernel)
set_option maxRecDepth 100000 in
theorem mo_162 : MOK 162 := mchk_ok (i1 := 1906) (q := (122, 1904, 1905)) (y := yX12_copy) (cc := cX12_copy) (n := 4) (rt := (some .int)) (st := false) rfl rfl rfl (by decide +kernel)
set_option maxRecDepth 100000 in
theorem mo_163 : MOK 163 := mchk_ok (i1 := 1910) (q := (122, 1908, 1909)) (y := yX12_image) (cc := cX12_image) (n := 3) (rt := (some .int)) (st := false) rfl rfl rfl (by decide +kernel)
set_option maxRecDepth 100000 in
theorem mo_164 : MOK 164 := mchk_ok (i1 := 1914) (q := (122, 1912, 1913)) (y := yX12_restore) (cc := cX12_restore) (n := 3) (rt := (some .int)) (st := false) rfl rfl rfl (by decide +kernel)
set_option maxRecDepth 100000 in
theorem mo_165 : MOK 165 := mchk_ok (i1 := 1918) (q := (122, 1916, 1917)) (y := yX12_count) (cc := cX12_count) (n := 2) (rt := (some .int)) (st := false) rfl rfl rfl (by decide +kernel)
set_option maxRecDepth 100000 in
theorem mo_166 : MOK 166 := mchk_ok (i1 := 453) (q := (120, 452, 0)) (y := yX0_init) (cc := cX0_init) (n := 1) (rt := none) (st := false) rfl rfl rfl (by decide +kernel)
set_option maxRecDepth 100000 in
theorem mo_167 : MOK 167 := mchk_ok (i1 := 1153) (q := (120, 1151, 1152)) (y := yX0_chooseSayings) (cc := cX0_chooseSayings) (n := 4) (rt := none) (st := false) rfl rfl rfl (by decide +kernel)
set_option maxRecDepth 100000 in
theorem mo_168 : MOK 168 := mchk_ok (i1 := 1185) (q := (120, 1183, 1184)) (y := yX0_chooseQuestions) (cc := cX0_chooseQuestions) (n := 5) (rt := none) (st := false) rfl rfl rfl (by decide +kernel)
set_option maxRecDepth 100000 in
theorem mo_169 : MOK 169 := mchk_ok (i1 := 1159) (q := (120, 1158, 37)) (y := yX0_begin) (cc := cX0_begin) (n := 3) (rt := none) (st := false) rfl rfl rfl (by decide +kernel)
set_option maxRecDepth 100000 in
theorem mo_170 : MOK 170 := mchk_ok (i1 := 1164) (q := (120, 1163, 38)) (y := yX0_sayOn) (cc := cX0_sayOn) (n := 8) (rt := none) (st := false) rfl rfl rfl (by decide +kernel)
set_option maxRecDepth 100000 in
theorem mo_171 : MOK 171 := mchk_ok (i1 := 1189) (q := (120, 1188, 40)) (y := yX0_askOn) (cc := cX0_askOn) (n := 8) (rt := none) (st := false) rfl rfl rfl (by decide +kernel)
set_option maxRecDepth 100000 in
theorem mo_172 : MOK 172 := mchk_ok (i1 := 1170) (q := (120, 1169, 39)) (y := yX0_weigh) (cc := cX0_weigh) (n := 3) (rt := none) (st := false) rfl rfl rfl (by decide +kernel)
set_option maxRecDepth 100000 in
theorem mo_173 : MOK 173 := mchk_ok (i1 := 1177) (q := (120, 1175, 1176)) (y := yX0_answer) (cc := cX0_answer) (n := 3) (rt := (some .int)) (st := false) rfl rfl rfl (by decide +kernel)
set_option maxRecDepth 100000 in
theorem mo_174 : MOK 174 := mchk_ok (i1 := 434) (q := (119, 433, 0)) (y := yX1_init) (cc := cX1_init) (n := 1) (rt := none) (st := false) rfl rfl rfl (by decide +kernel)
set_option maxRecDepth 100000 in
theorem mo_175 : MOK 175 := mchk_ok (i1 := 1107) (q := (119, 1105, 1106)) (y := yX1_fewest) (cc := cX1_fewest) (n := 6) (rt := (some .int)) (st := false) rfl rfl rfl (by decide +kernel)
set_option maxRecDepth 100000 in
theorem mo_176 : MOK 176 := mchk_ok (i1 := 1141) (q := (119, 1139, 1140)) (y := yX1_loadOf) (cc := cX1_loadOf) (n := 5) (rt := (some .int)) (st := false) rfl rfl rfl (by decide +kernel)
set_option maxRecDepth 100000 in
theorem mo_177 : MOK 177 := mchk_ok (i1 := 1145) (q := (119, 1144, 36)) (y := yX1_leastLoad) (cc := cX1_leastLoad) (n := 9) (rt := (some .int)) (st := false) rfl rfl rfl (by decide +kernel)
set_option maxRecDepth 100000 in
theorem mo_178 : MOK 178 := mchk_ok (i1 := 1112) (q := (119, 1111, 30)) (y := yX1_canCarry) (cc := cX1_canCarry) (n := 7) (rt := (some .boolean)) (st := false) rfl rfl rfl (by decide +kernel)
set_option maxRecDepth 100000 in
theorem mo_179 : MOK 179 := mchk_ok (i1 := 1125) (q := (119, 1124, 33)) (y := yX1_canDivide) (cc := cX1_canDivide) (n := 11) (rt := (some .boolean)) (st := false) rfl rfl rfl (by decide +kernel)
set_option maxRecDepth 100000 in
theorem mo_180 : MOK 180 := mchk_ok (i1 := 1117) (q := (119, 1116, 31)) (y := yX1_hardestOf) (cc := cX1_hardestOf) (n := 6) (rt := (some .int)) (st := false) rfl rfl rfl (by decide +kernel)
set_option maxRecDepth 100000 in
theorem mo_181 : MOK 181 := mchk_ok (i1 := 1121) (q := (119, 1120, 32)) (y := yX1_easyOf) (cc := cX1_easyOf) (n := 5) (rt := (some .int)) (st := false) rfl rfl rfl (by decide +kernel)
set_option maxRecDepth 100000 in
theorem mo_182 : MOK 182 := mchk_ok (i1 := 1129) (q := (119, 1128, 34)) (y := yX1_tooMuchAt) (cc := cX1_tooMuchAt) (n := 4) (rt := (some .int)) (st := false) rfl rfl rfl (by decide +kernel)
set_option maxRecDepth 100000 in
theorem mo_183 : MOK 183 := mchk_ok (i1 := 1133) (q := (119, 1132, 35)) (y := yX1_isFull) (cc := cX1_isFull) (n := 4) (rt := (some .boolean)) (st := false) rfl rfl rfl (by decide +kernel)
set_option maxRecDepth 100000 in
theorem mo_184 : MOK 184 := mchk_ok (i1 := 252) (q := (114, 251, 0)) (y := yX2_init) (cc := cX2_init) (n := 2) (rt := none) (st := false) rfl rfl rfl (by decide +kernel)
set_option maxRecDepth 100000 in
theorem mo_185 : MOK 185 := mchk_ok (i1 := 859) (q := (114, 857, 858)) (y := yX2_likeOf) (cc := cX2_likeOf) (n := 3) (rt := none) (st := false) rfl rfl rfl (by decide +kernel)
set_option maxRecDepth 100000 in
theorem mo_186 : MOK 186 := mchk_ok (i1 := 757) (q := (114, 755, 756)) (y := yX2_isOne) (cc := cX2_isOne) (n := 3) (rt := (some .boolean)) (st := false) rfl rfl rfl (by decide +kernel)
set_option maxRecDepth 100000 in
theorem mo_187 : MOK 187 := mchk_ok (i1 := 808) (q := (114, 806, 807)) (y := yX2_areTwo) (cc := cX2_areTwo) (n := 5) (rt := (some .boolean)) (st := false) rfl rfl rfl (by decide +kernel)
set_option maxRecDepth 100000 in
theorem mo_188 : MOK 188 := mchk_ok (i1 := 734) (q := (114, 732, 733)) (y := yX2_addOne) (cc := cX2_addOne) (n := 2) (rt := (some .int)) (st := false) rfl rfl rfl (by decide +kernel)
set_option maxRecDepth 100000 in
theorem mo_189 : MOK 189 := mchk_ok (i1 := 887) (q := (114, 885, 886)) (y := yX2_turnedPairs) (cc := cX2_turnedPairs) (n := 8) (rt := (some .int)) (st := false) rfl rfl rfl (by decide +kernel)
set_option maxRecDepth 100000 in
theorem mo_190 : MOK 190 := mchk_ok (i1 := 901) (q := (114, 899, 900)) (y := yX2_act) (cc := cX2_act) (n := 5) (rt := (some .int)) (st := false) rfl rfl rfl (by decide +kernel)
set_option maxRecDepth 100000 in
theorem mo_191 : MOK 191 := mchk_ok (i1 := 905) (q := (114, 904, 17)) (y := yX2_actOnce) (cc := cX2_actOnce) (n := 8) (rt := (some .boolean)) (st := false) rfl rfl rfl (by decide +kernel)
set_option maxRecDepth 100000 in
theorem mo_192 : MOK 192 := mchk_ok (i1 := 909) (q := (114, 908, 0)) (y := yX2_hearIfThere) (cc := cX2_hearIfThere) (n := 4) (rt := (some .boolean)) (st := true) rfl rfl rfl (by decide +kernel)
set_option maxRecDepth 100000 in
theorem mo_193 : MOK 193 := mchk_ok (i1 := 915) (q := (114, 914, 0)) (y := yX2_sayIfHeld) (cc := cX2_sayIfHeld) (n := 4) (rt := (some .boolean)) (st := true) rfl rfl rfl (by decide +kernel)
set_option maxRecDepth 100000 in
theorem mo_194 : MOK 194 := mchk_ok (i1 := 921) (q := (114, 920, 0)) (y := yX2_walkIfThere) (cc := cX2_walkIfThere) (n := 4) (rt := (some .boolean)) (st := true) rfl rfl rfl (by decide +kernel)
set_option maxRecDepth 100000 in
theorem mo_195 : MOK 195 := mchk_ok (i1 := 927) (q := (114, 926, 0)) (y := yX2_listenIfNear) (cc := cX2_listenIfNear) (n := 8) (rt := (some .boolean)) (st := true) rfl rfl rfl (by decide +kernel)
set_option maxRecDepth 100000 in
theorem mo_196 : MOK 196 := mchk_ok (i1 := 940) (q := (114, 938, 939)) (y := yX2_spendDay) (cc := cX2_spendDay) (n := 7) (rt := (some .int)) (st := false) rfl rfl rfl (by decide +kernel)
set_option maxRecDepth 100000 in
theorem mo_197 : MOK 197 := mchk_ok (i1 := 948) (q := (114, 947, 19)) (y := yX2_spendOnce) (cc := cX2_spendOnce) (n := 4) (rt := none) (st := false) rfl rfl rfl (by decide +kernel)
set_option maxRecDepth 100000 in
theorem mo_198 : MOK 198 := mchk_ok (i1 := 952) (q := (114, 951, 20)) (y := yX2_draw) (cc := cX2_draw) (n := 1) (rt := (some .int)) (st := false) rfl rfl rfl (by decide +kernel)
set_option maxRecDepth 100000 in
theorem mo_199 : MOK 199 := mchk_ok (i1 := 944) (q := (114, 943, 18)) (y := yX2_lostByAll) (cc := cX2_lostByAll) (n := 3) (rt := (some .int)) (st := false) rfl rfl rfl (by decide +kernel)
end
