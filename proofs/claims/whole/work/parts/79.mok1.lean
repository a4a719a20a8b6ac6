section
set_option maxRecDepth 100000 in
theorem mo_100 : MOK 100 := mchk_ok (i1 := 1645) (q := (123, 1643, 1644)) (y := yX12_delivers) (cc := cX12_delivers) (n := 2) (rt := (some .int)) (st := false) rfl rfl rfl (by decide +kernel)
set_option maxRecDepth 100000 in
theorem mo_101 : MOK 101 := mchk_ok (i1 := 1665) (q := (123, 1664, 81)) (y := yX12_isBreach) (cc := cX12_isBreach) (n := 4) (rt := (some .boolean)) (st := false) rfl rfl rfl (by decide +kernel)
set_option maxRecDepth 100000 in
theorem mo_102 : MOK 102 := mchk_ok (i1 := 1653) (q := (123, 1651, 1652)) (y := yX12_breach) (cc := cX12_breach) (n := 5) (rt := (some .int)) (st := false) rfl rfl rfl (by decide +kernel)
set_option maxRecDepth 100000 in
theorem mo_103 : MOK 103 := mchk_ok (i1 := 1661) (q := (123, 1660, 80)) (y := yX12_triesAs) (cc := cX12_triesAs) (n := 3) (rt := none) (st := false) rfl rfl rfl (by decide +kernel)
set_option maxRecDepth 100000 in
theorem mo_104 : MOK 104 := mchk_ok (i1 := 1657) (q := (123, 1655, 1656)) (y := yX12_risk) (cc := cX12_risk) (n := 3) (rt := (some .int)) (st := false) rfl rfl rfl (by decide +kernel)
set_option maxRecDepth 100000 in
theorem mo_105 : MOK 105 := mchk_ok (i1 := 1669) (q := (123, 1667, 1668)) (y := yX12_loud) (cc := cX12_loud) (n := 6) (rt := (some .int)) (st := false) rfl rfl rfl (by decide +kernel)
set_option maxRecDepth 100000 in
theorem mo_106 : MOK 106 := mchk_ok (i1 := 1672) (q := (123, 1671, 0)) (y := yX12_bitsOf) (cc := cX12_bitsOf) (n := 3) (rt := (some .int)) (st := true) rfl rfl rfl (by decide +kernel)
set_option maxRecDepth 100000 in
theorem mo_107 : MOK 107 := mchk_ok (i1 := 1676) (q := (123, 1674, 1675)) (y := yX12_turned) (cc := cX12_turned) (n := 8) (rt := (some .int)) (st := false) rfl rfl rfl (by decide +kernel)
set_option maxRecDepth 100000 in
theorem mo_108 : MOK 108 := mchk_ok (i1 := 1688) (q := (123, 1687, 83)) (y := yX12_acts) (cc := cX12_acts) (n := 7) (rt := (some .boolean)) (st := false) rfl rfl rfl (by decide +kernel)
set_option maxRecDepth 100000 in
theorem mo_109 : MOK 109 := mchk_ok (i1 := 1684) (q := (123, 1683, 82)) (y := yX12_actsAll) (cc := cX12_actsAll) (n := 4) (rt := (some .int)) (st := false) rfl rfl rfl (by decide +kernel)
set_option maxRecDepth 100000 in
theorem mo_110 : MOK 110 := mchk_ok (i1 := 1680) (q := (123, 1678, 1679)) (y := yX12_judge) (cc := cX12_judge) (n := 8) (rt := (some .int)) (st := false) rfl rfl rfl (by decide +kernel)
set_option maxRecDepth 100000 in
theorem mo_111 : MOK 111 := mchk_ok (i1 := 1698) (q := (123, 1696, 1697)) (y := yX12_perform) (cc := cX12_perform) (n := 3) (rt := (some .int)) (st := false) rfl rfl rfl (by decide +kernel)
set_option maxRecDepth 100000 in
theorem mo_112 : MOK 112 := mchk_ok (i1 := 1706) (q := (123, 1705, 84)) (y := yX12_draw) (cc := cX12_draw) (n := 2) (rt := (some .int)) (st := false) rfl rfl rfl (by decide +kernel)
set_option maxRecDepth 100000 in
theorem mo_113 : MOK 113 := mchk_ok (i1 := 1702) (q := (123, 1700, 1701)) (y := yX12_day) (cc := cX12_day) (n := 7) (rt := (some .int)) (st := false) rfl rfl rfl (by decide +kernel)
set_option maxRecDepth 100000 in
theorem mo_114 : MOK 114 := mchk_ok (i1 := 1715) (q := (123, 1714, 85)) (y := yX12_areThings) (cc := cX12_areThings) (n := 3) (rt := (some .boolean)) (st := false) rfl rfl rfl (by decide +kernel)
set_option maxRecDepth 100000 in
theorem mo_115 : MOK 115 := mchk_ok (i1 := 1727) (q := (123, 1726, 88)) (y := yX12_nextAt) (cc := cX12_nextAt) (n := 5) (rt := (some .int)) (st := false) rfl rfl rfl (by decide +kernel)
set_option maxRecDepth 100000 in
theorem mo_116 : MOK 116 := mchk_ok (i1 := 1723) (q := (123, 1722, 87)) (y := yX12_driven) (cc := cX12_driven) (n := 8) (rt := (some .int)) (st := false) rfl rfl rfl (by decide +kernel)
set_option maxRecDepth 100000 in
theorem mo_117 : MOK 117 := mchk_ok (i1 := 1719) (q := (123, 1718, 86)) (y := yX12_freshOf) (cc := cX12_freshOf) (n := 7) (rt := (some .int)) (st := false) rfl rfl rfl (by decide +kernel)
set_option maxRecDepth 100000 in
theorem mo_118 : MOK 118 := mchk_ok (i1 := 1711) (q := (123, 1709, 1710)) (y := yX12_fresh) (cc := cX12_fresh) (n := 4) (rt := (some .int)) (st := false) rfl rfl rfl (by decide +kernel)
set_option maxRecDepth 100000 in
theorem mo_119 : MOK 119 := mchk_ok (i1 := 1731) (q := (123, 1729, 1730)) (y := yX12_kept) (cc := cX12_kept) (n := 4) (rt := (some .int)) (st := false) rfl rfl rfl (by decide +kernel)
set_option maxRecDepth 100000 in
theorem mo_120 : MOK 120 := mchk_ok (i1 := 1735) (q := (123, 1733, 1734)) (y := yX12_less) (cc := cX12_less) (n := 3) (rt := (some .int)) (st := false) rfl rfl rfl (by decide +kernel)
set_option maxRecDepth 100000 in
theorem mo_121 : MOK 121 := mchk_ok (i1 := 1739) (q := (123, 1737, 1738)) (y := yX12_enough) (cc := cX12_enough) (n := 5) (rt := (some .int)) (st := false) rfl rfl rfl (by decide +kernel)
set_option maxRecDepth 100000 in
theorem mo_122 : MOK 122 := mchk_ok (i1 := 1743) (q := (123, 1741, 1742)) (y := yX12_farBack) (cc := cX12_farBack) (n := 5) (rt := (some .int)) (st := false) rfl rfl rfl (by decide +kernel)
set_option maxRecDepth 100000 in
theorem mo_123 : MOK 123 := mchk_ok (i1 := 1755) (q := (123, 1754, 90)) (y := yX12_throughOf) (cc := cX12_throughOf) (n := 5) (rt := (some .int)) (st := false) rfl rfl rfl (by decide +kernel)
set_option maxRecDepth 100000 in
theorem mo_124 : MOK 124 := mchk_ok (i1 := 1751) (q := (123, 1750, 89)) (y := yX12_tellsRow) (cc := cX12_tellsRow) (n := 3) (rt := none) (st := false) rfl rfl rfl (by decide +kernel)
set_option maxRecDepth 100000 in
theorem mo_125 : MOK 125 := mchk_ok (i1 := 1747) (q := (123, 1745, 1746)) (y := yX12_through) (cc := cX12_through) (n := 4) (rt := (some .int)) (st := false) rfl rfl rfl (by decide +kernel)
set_option maxRecDepth 100000 in
theorem mo_126 : MOK 126 := mchk_ok (i1 := 1759) (q := (123, 1757, 1758)) (y := yX12_sizeFor) (cc := cX12_sizeFor) (n := 5) (rt := (some .int)) (st := false) rfl rfl rfl (by decide +kernel)
set_option maxRecDepth 100000 in
theorem mo_127 : MOK 127 := mchk_ok (i1 := 1773) (q := (123, 1772, 92)) (y := yX12_tellsAll) (cc := cX12_tellsAll) (n := 7) (rt := none) (st := false) rfl rfl rfl (by decide +kernel)
set_option maxRecDepth 100000 in
theorem mo_128 : MOK 128 := mchk_ok (i1 := 1763) (q := (123, 1761, 1762)) (y := yX12_told) (cc := cX12_told) (n := 5) (rt := (some .int)) (st := false) rfl rfl rfl (by decide +kernel)
set_option maxRecDepth 100000 in
theorem mo_129 : MOK 129 := mchk_ok (i1 := 1781) (q := (123, 1780, 93)) (y := yX12_backOf) (cc := cX12_backOf) (n := 5) (rt := (some .int)) (st := false) rfl rfl rfl (by decide +kernel)
set_option maxRecDepth 100000 in
theorem mo_130 : MOK 130 := mchk_ok (i1 := 1777) (q := (123, 1775, 1776)) (y := yX12_back) (cc := cX12_back) (n := 2) (rt := (some .int)) (st := false) rfl rfl rfl (by decide +kernel)
set_option maxRecDepth 100000 in
theorem mo_131 : MOK 131 := mchk_ok (i1 := 1785) (q := (123, 1783, 1784)) (y := yX12_seeds) (cc := cX12_seeds) (n := 5) (rt := (some .int)) (st := false) rfl rfl rfl (by decide +kernel)
set_option maxRecDepth 100000 in
theorem mo_132 : MOK 132 := mchk_ok (i1 := 1805) (q := (123, 1804, 97)) (y := yX12_canCarry) (cc := cX12_canCarry) (n := 4) (rt := (some .boolean)) (st := false) rfl rfl rfl (by decide +kernel)
set_option maxRecDepth 100000 in
theorem mo_133 : MOK 133 := mchk_ok (i1 := 1809) (q := (123, 1808, 98)) (y := yX12_leftIn) (cc := cX12_leftIn) (n := 6) (rt := (some .int)) (st := false) rfl rfl rfl (by decide +kernel)
set_option maxRecDepth 100000 in
theorem mo_134 : MOK 134 := mchk_ok (i1 := 1813) (q := (123, 1812, 99)) (y := yX12_without) (cc := cX12_without) (n := 5) (rt := (some .int)) (st := false) rfl rfl rfl (by decide +kernel)
set_option maxRecDepth 100000 in
theorem mo_135 : MOK 135 := mchk_ok (i1 := 1801) (q := (123, 1800, 96)) (y := yX12_asThings) (cc := cX12_asThings) (n := 4) (rt := (some .int)) (st := false) rfl rfl rfl (by decide +kernel)
set_option maxRecDepth 100000 in
theorem mo_136 : MOK 136 := mchk_ok (i1 := 1797) (q := (123, 1796, 95)) (y := yX12_laysMen) (cc := cX12_laysMen) (n := 15) (rt := (some .int)) (st := false) rfl rfl rfl (by decide +kernel)
set_option maxRecDepth 100000 in
theorem mo_137 : MOK 137 := mchk_ok (i1 := 1793) (q := (123, 1792, 94)) (y := yX12_refusesMen) (cc := cX12_refusesMen) (n := 4) (rt := (some .int)) (st := false) rfl rfl rfl (by decide +kernel)
set_option maxRecDepth 100000 in
theorem mo_138 : MOK 138 := mchk_ok (i1 := 1789) (q := (123, 1787, 1788)) (y := yX12_men) (cc := cX12_men) (n := 5) (rt := (some .int)) (st := false) rfl rfl rfl (by decide +kernel)
set_option maxRecDepth 100000 in
theorem mo_139 : MOK 139 := mchk_ok (i1 := 1817) (q := (123, 1815, 1816)) (y := yX12_load) (cc := cX12_load) (n := 10) (rt := (some .int)) (st := false) rfl rfl rfl (by decide +kernel)
set_option maxRecDepth 100000 in
theorem mo_140 : MOK 140 := mchk_ok (i1 := 1833) (q := (123, 1832, 101)) (y := yX12_isBest) (cc := cX12_isBest) (n := 4) (rt := none) (st := false) rfl rfl rfl (by decide +kernel)
set_option maxRecDepth 100000 in
theorem mo_141 : MOK 141 := mchk_ok (i1 := 1829) (q := (123, 1828, 100)) (y := yX12_rowsOf) (cc := cX12_rowsOf) (n := 7) (rt := none) (st := false) rfl rfl rfl (by decide +kernel)
set_option maxRecDepth 100000 in
theorem mo_142 : MOK 142 := mchk_ok (i1 := 1837) (q := (123, 1836, 102)) (y := yX12_toldBest) (cc := cX12_toldBest) (n := 2) (rt := (some .int)) (st := false) rfl rfl rfl (by decide +kernel)
set_option maxRecDepth 100000 in
theorem mo_143 : MOK 143 := mchk_ok (i1 := 1824) (q := (123, 1823, 0)) (y := yX12_isWhat) (cc := cX12_isWhat) (n := 1) (rt := (some .boolean)) (st := true) rfl rfl rfl (by decide +kernel)
set_option maxRecDepth 100000 in
theorem mo_144 : MOK 144 := mchk_ok (i1 := 1821) (q := (123, 1819, 1820)) (y := yX12_road) (cc := cX12_road) (n := 5) (rt := (some .int)) (st := false) rfl rfl rfl (by decide +kernel)
set_option maxRecDepth 100000 in
theorem mo_145 : MOK 145 := mchk_ok (i1 := 1841) (q := (123, 1839, 1840)) (y := yX12_questions) (cc := cX12_questions) (n := 6) (rt := (some .int)) (st := false) rfl rfl rfl (by decide +kernel)
set_option maxRecDepth 100000 in
theorem mo_146 : MOK 146 := mchk_ok (i1 := 1845) (q := (123, 1843, 1844)) (y := yX12_asked) (cc := cX12_asked) (n := 7) (rt := (some .int)) (st := false) rfl rfl rfl (by decide +kernel)
set_option maxRecDepth 100000 in
theorem mo_147 : MOK 147 := mchk_ok (i1 := 1849) (q := (123, 1847, 1848)) (y := yX12_broken) (cc := cX12_broken) (n := 5) (rt := (some .int)) (st := false) rfl rfl rfl (by decide +kernel)
set_option maxRecDepth 100000 in
theorem mo_148 : MOK 148 := mchk_ok (i1 := 1853) (q := (123, 1851, 1852)) (y := yX12_piece) (cc := cX12_piece) (n := 4) (rt := (some .int)) (st := false) rfl rfl rfl (by decide +kernel)
set_option maxRecDepth 100000 in
theorem mo_149 : MOK 149 := mchk_ok (i1 := 1866) (q := (123, 1865, 104)) (y := yX12_stands) (cc := cX12_stands) (n := 6) (rt := (some .boolean)) (st := false) rfl rfl rfl (by decide +kernel)
set_option maxRecDepth 100000 in
theorem mo_150 : MOK 150 := mchk_ok (i1 := 1862) (q := (123, 1861, 103)) (y := yX12_isWithin) (cc := cX12_isWithin) (n := 4) (rt := (some .boolean)) (st := false) rfl rfl rfl (by decide +kernel)
set_option maxRecDepth 100000 in
theorem mo_151 : MOK 151 := mchk_ok (i1 := 1878) (q := (123, 1877, 107)) (y := yX12_lays) (cc := cX12_lays) (n := 7) (rt := (some .int)) (st := false) rfl rfl rfl (by decide +kernel)
set_option maxRecDepth 100000 in
theorem mo_152 : MOK 152 := mchk_ok (i1 := 1874) (q := (123, 1873, 106)) (y := yX12_isFirst) (cc := cX12_isFirst) (n := 3) (rt := (some .boolean)) (st := false) rfl rfl rfl (by decide +kernel)
set_option maxRecDepth 100000 in
theorem mo_153 : MOK 153 := mchk_ok (i1 := 1870) (q := (123, 1869, 105)) (y := yX12_joins) (cc := cX12_joins) (n := 4) (rt := none) (st := false) rfl rfl rfl (by decide +kernel)
set_option maxRecDepth 100000 in
theorem mo_154 : MOK 154 := mchk_ok (i1 := 1858) (q := (123, 1856, 1857)) (y := yX12_joined) (cc := cX12_joined) (n := 4) (rt := (some .int)) (st := false) rfl rfl rfl (by decide +kernel)
set_option maxRecDepth 100000 in
theorem mo_155 : MOK 155 := mchk_ok (i1 := 1890) (q := (123, 1889, 109)) (y := yX12_firstIn) (cc := cX12_firstIn) (n := 4) (rt := (some .int)) (st := false) rfl rfl rfl (by decide +kernel)
set_option maxRecDepth 100000 in
theorem mo_156 : MOK 156 := mchk_ok (i1 := 1886) (q := (123, 1885, 108)) (y := yX12_areUnfit) (cc := cX12_areUnfit) (n := 5) (rt := (some .boolean)) (st := false) rfl rfl rfl (by decide +kernel)
set_option maxRecDepth 100000 in
theorem mo_157 : MOK 157 := mchk_ok (i1 := 1882) (q := (123, 1880, 1881)) (y := yX12_unfit) (cc := cX12_unfit) (n := 3) (rt := (some .int)) (st := false) rfl rfl rfl (by decide +kernel)
set_option maxRecDepth 100000 in
theorem mo_158 : MOK 158 := mchk_ok (i1 := 1894) (q := (123, 1892, 1893)) (y := yX12_gaps) (cc := cX12_gaps) (n := 4) (rt := (some .int)) (st := false) rfl rfl rfl (by decide +kernel)
set_option maxRecDepth 100000 in
theorem mo_159 : MOK 159 := mchk_ok (i1 := 1908) (q := (123, 1907, 0)) (y := yX12_cut) (cc := cX12_cut) (n := 3) (rt := (some .long)) (st := true) rfl rfl rfl (by decide +kernel)
set_option maxRecDepth 100000 in
theorem mo_160 : MOK 160 := mchk_ok (i1 := 1898) (q := (123, 1896, 1897)) (y := yX12_numbers) (cc := cX12_numbers) (n := 5) (rt := (some .int)) (st := false) rfl rfl rfl (by decide +kernel)
set_option maxRecDepth 100000 in
theorem mo_161 : MOK 161 := mchk_ok (i1 := 1902) (q := (123, 1900, 1901)) (y := yX12_write) (cc := cX12_write) (n := 5) (rt := (some .long)) (st := false) rfl rfl rfl (by decide +kernel)
set_option maxRecDepth 100000 in
theorem mo_162 : MOK 162 := mchk_ok (i1 := 1912) (q := (123, 1910, 1911)) (y := yX12_copy) (cc := cX12_copy) (n := 4) (rt := (some .int)) (st := false) rfl rfl rfl (by decide +kernel)
set_option maxRecDepth 100000 in
theorem mo_163 : MOK 163 := mchk_ok (i1 := 1916) (q := (123, 1914, 1915)) (y := yX12_image) (cc := cX12_image) (n := 3) (rt := (some .int)) (st := false) rfl rfl rfl (by decide +kernel)
set_option maxRecDepth 100000 in
theorem mo_164 : MOK 164 := mchk_ok (i1 := 1920) (q := (123, 1918, 1919)) (y := yX12_restore) (cc := cX12_restore) (n := 3) (rt := (some .int)) (st := false) rfl rfl rfl (by decide +kernel)
set_option maxRecDepth 100000 in
theorem mo_165 : MOK 165 := mchk_ok (i1 := 1924) (q := (123, 1922, 1923)) (y := yX12_count) (cc := cX12_count) (n := 2) (rt := (some .int)) (st := false) rfl rfl rfl (by decide +kernel)
set_option maxRecDepth 100000 in
theorem mo_166 : MOK 166 := mchk_ok (i1 := 454) (q := (121, 453, 0)) (y := yX0_init) (cc := cX0_init) (n := 1) (rt := none) (st := false) rfl rfl rfl (by decide +kernel)
set_option maxRecDepth 100000 in
theorem mo_167 : MOK 167 := mchk_ok (i1 := 1159) (q := (121, 1157, 1158)) (y := yX0_chooseSayings) (cc := cX0_chooseSayings) (n := 4) (rt := none) (st := false) rfl rfl rfl (by decide +kernel)
set_option maxRecDepth 100000 in
theorem mo_168 : MOK 168 := mchk_ok (i1 := 1191) (q := (121, 1189, 1190)) (y := yX0_chooseQuestions) (cc := cX0_chooseQuestions) (n := 5) (rt := none) (st := false) rfl rfl rfl (by decide +kernel)
set_option maxRecDepth 100000 in
theorem mo_169 : MOK 169 := mchk_ok (i1 := 1165) (q := (121, 1164, 38)) (y := yX0_begin) (cc := cX0_begin) (n := 3) (rt := none) (st := false) rfl rfl rfl (by decide +kernel)
set_option maxRecDepth 100000 in
theorem mo_170 : MOK 170 := mchk_ok (i1 := 1170) (q := (121, 1169, 39)) (y := yX0_sayOn) (cc := cX0_sayOn) (n := 8) (rt := none) (st := false) rfl rfl rfl (by decide +kernel)
set_option maxRecDepth 100000 in
theorem mo_171 : MOK 171 := mchk_ok (i1 := 1195) (q := (121, 1194, 41)) (y := yX0_askOn) (cc := cX0_askOn) (n := 8) (rt := none) (st := false) rfl rfl rfl (by decide +kernel)
set_option maxRecDepth 100000 in
theorem mo_172 : MOK 172 := mchk_ok (i1 := 1176) (q := (121, 1175, 40)) (y := yX0_weigh) (cc := cX0_weigh) (n := 3) (rt := none) (st := false) rfl rfl rfl (by decide +kernel)
set_option maxRecDepth 100000 in
theorem mo_173 : MOK 173 := mchk_ok (i1 := 1183) (q := (121, 1181, 1182)) (y := yX0_answer) (cc := cX0_answer) (n := 3) (rt := (some .int)) (st := false) rfl rfl rfl (by decide +kernel)
set_option maxRecDepth 100000 in
theorem mo_174 : MOK 174 := mchk_ok (i1 := 435) (q := (120, 434, 0)) (y := yX1_init) (cc := cX1_init) (n := 1) (rt := none) (st := false) rfl rfl rfl (by decide +kernel)
set_option maxRecDepth 100000 in
theorem mo_175 : MOK 175 := mchk_ok (i1 := 1113) (q := (120, 1111, 1112)) (y := yX1_fewest) (cc := cX1_fewest) (n := 6) (rt := (some .int)) (st := false) rfl rfl rfl (by decide +kernel)
set_option maxRecDepth 100000 in
theorem mo_176 : MOK 176 := mchk_ok (i1 := 1147) (q := (120, 1145, 1146)) (y := yX1_loadOf) (cc := cX1_loadOf) (n := 5) (rt := (some .int)) (st := false) rfl rfl rfl (by decide +kernel)
set_option maxRecDepth 100000 in
theorem mo_177 : MOK 177 := mchk_ok (i1 := 1151) (q := (120, 1150, 37)) (y := yX1_leastLoad) (cc := cX1_leastLoad) (n := 9) (rt := (some .int)) (st := false) rfl rfl rfl (by decide +kernel)
set_option maxRecDepth 100000 in
theorem mo_178 : MOK 178 := mchk_ok (i1 := 1118) (q := (120, 1117, 31)) (y := yX1_canCarry) (cc := cX1_canCarry) (n := 7) (rt := (some .boolean)) (st := false) rfl rfl rfl (by decide +kernel)
set_option maxRecDepth 100000 in
theorem mo_179 : MOK 179 := mchk_ok (i1 := 1131) (q := (120, 1130, 34)) (y := yX1_canDivide) (cc := cX1_canDivide) (n := 11) (rt := (some .boolean)) (st := false) rfl rfl rfl (by decide +kernel)
set_option maxRecDepth 100000 in
theorem mo_180 : MOK 180 := mchk_ok (i1 := 1123) (q := (120, 1122, 32)) (y := yX1_hardestOf) (cc := cX1_hardestOf) (n := 6) (rt := (some .int)) (st := false) rfl rfl rfl (by decide +kernel)
set_option maxRecDepth 100000 in
theorem mo_181 : MOK 181 := mchk_ok (i1 := 1127) (q := (120, 1126, 33)) (y := yX1_easyOf) (cc := cX1_easyOf) (n := 5) (rt := (some .int)) (st := false) rfl rfl rfl (by decide +kernel)
set_option maxRecDepth 100000 in
theorem mo_182 : MOK 182 := mchk_ok (i1 := 1135) (q := (120, 1134, 35)) (y := yX1_tooMuchAt) (cc := cX1_tooMuchAt) (n := 4) (rt := (some .int)) (st := false) rfl rfl rfl (by decide +kernel)
set_option maxRecDepth 100000 in
theorem mo_183 : MOK 183 := mchk_ok (i1 := 1139) (q := (120, 1138, 36)) (y := yX1_isFull) (cc := cX1_isFull) (n := 4) (rt := (some .boolean)) (st := false) rfl rfl rfl (by decide +kernel)
set_option maxRecDepth 100000 in
theorem mo_184 : MOK 184 := mchk_ok (i1 := 253) (q := (115, 252, 0)) (y := yX2_init) (cc := cX2_init) (n := 2) (rt := none) (st := false) rfl rfl rfl (by decide +kernel)
set_option maxRecDepth 100000 in
theorem mo_185 : MOK 185 := mchk_ok (i1 := 871) (q := (115, 869, 870)) (y := yX2_likeOf) (cc := cX2_likeOf) (n := 3) (rt := none) (st := false) rfl rfl rfl (by decide +kernel)
set_option maxRecDepth 100000 in
theorem mo_186 : MOK 186 := mchk_ok (i1 := 762) (q := (115, 760, 761)) (y := yX2_isOne) (cc := cX2_isOne) (n := 3) (rt := (some .boolean)) (st := false) rfl rfl rfl (by decide +kernel)
set_option maxRecDepth 100000 in
theorem mo_187 : MOK 187 := mchk_ok (i1 := 820) (q := (115, 818, 819)) (y := yX2_areTwo) (cc := cX2_areTwo) (n := 5) (rt := (some .boolean)) (st := false) rfl rfl rfl (by decide +kernel)
set_option maxRecDepth 100000 in
theorem mo_188 : MOK 188 := mchk_ok (i1 := 739) (q := (115, 737, 738)) (y := yX2_addOne) (cc := cX2_addOne) (n := 2) (rt := (some .int)) (st := false) rfl rfl rfl (by decide +kernel)
set_option maxRecDepth 100000 in
theorem mo_189 : MOK 189 := mchk_ok (i1 := 899) (q := (115, 897, 898)) (y := yX2_turnedPairs) (cc := cX2_turnedPairs) (n := 8) (rt := (some .int)) (st := false) rfl rfl rfl (by decide +kernel)
set_option maxRecDepth 100000 in
theorem mo_190 : MOK 190 := mchk_ok (i1 := 909) (q := (115, 907, 908)) (y := yX2_act) (cc := cX2_act) (n := 5) (rt := (some .int)) (st := false) rfl rfl rfl (by decide +kernel)
set_option maxRecDepth 100000 in
theorem mo_191 : MOK 191 := mchk_ok (i1 := 913) (q := (115, 912, 18)) (y := yX2_actOnce) (cc := cX2_actOnce) (n := 8) (rt := (some .boolean)) (st := false) rfl rfl rfl (by decide +kernel)
set_option maxRecDepth 100000 in
theorem mo_192 : MOK 192 := mchk_ok (i1 := 917) (q := (115, 916, 0)) (y := yX2_hearIfThere) (cc := cX2_hearIfThere) (n := 4) (rt := (some .boolean)) (st := true) rfl rfl rfl (by decide +kernel)
set_option maxRecDepth 100000 in
theorem mo_193 : MOK 193 := mchk_ok (i1 := 923) (q := (115, 922, 0)) (y := yX2_sayIfHeld) (cc := cX2_sayIfHeld) (n := 4) (rt := (some .boolean)) (st := true) rfl rfl rfl (by decide +kernel)
set_option maxRecDepth 100000 in
theorem mo_194 : MOK 194 := mchk_ok (i1 := 929) (q := (115, 928, 0)) (y := yX2_walkIfThere) (cc := cX2_walkIfThere) (n := 4) (rt := (some .boolean)) (st := true) rfl rfl rfl (by decide +kernel)
set_option maxRecDepth 100000 in
theorem mo_195 : MOK 195 := mchk_ok (i1 := 935) (q := (115, 934, 0)) (y := yX2_listenIfNear) (cc := cX2_listenIfNear) (n := 8) (rt := (some .boolean)) (st := true) rfl rfl rfl (by decide +kernel)
set_option maxRecDepth 100000 in
theorem mo_196 : MOK 196 := mchk_ok (i1 := 948) (q := (115, 946, 947)) (y := yX2_spendDay) (cc := cX2_spendDay) (n := 7) (rt := (some .int)) (st := false) rfl rfl rfl (by decide +kernel)
set_option maxRecDepth 100000 in
theorem mo_197 : MOK 197 := mchk_ok (i1 := 956) (q := (115, 955, 20)) (y := yX2_spendOnce) (cc := cX2_spendOnce) (n := 4) (rt := none) (st := false) rfl rfl rfl (by decide +kernel)
set_option maxRecDepth 100000 in
theorem mo_198 : MOK 198 := mchk_ok (i1 := 960) (q := (115, 959, 21)) (y := yX2_draw) (cc := cX2_draw) (n := 1) (rt := (some .int)) (st := false) rfl rfl rfl (by decide +kernel)
set_option maxRecDepth 100000 in
theorem mo_199 : MOK 199 := mchk_ok (i1 := 952) (q := (115, 951, 19)) (y := yX2_lostByAll) (cc := cX2_lostByAll) (n := 3) (rt := (some .int)) (st := false) rfl rfl rfl (by decide +kernel)
end
