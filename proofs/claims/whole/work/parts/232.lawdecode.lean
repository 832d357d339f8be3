/-! THE LAW: each case of its switch, from its first row to the loop's step -/
theorem LVx_L_26 : u_LV RL 26 RX11 yX11_sign cX11_sign 2 (some .int) 1 := ⟨⟨q_335, q_1, q_338, ⟨by decide +kernel, by decide +kernel, by decide +kernel⟩, by decide⟩, q_336, q_337⟩
theorem LVx_L_30 : u_LV RL 30 RX12 yX12_sign cX12_sign 3 (some .int) 1 := ⟨⟨q_1211, q_13, q_1214, ⟨by decide +kernel, by decide +kernel, by decide +kernel⟩, by decide⟩, q_1212, q_1213⟩
theorem LVx_L_31 : u_LV RL 31 RX11 yX11_end cX11_end 2 (some .boolean) 1 := ⟨⟨q_343, q_1, q_346, ⟨by decide +kernel, by decide +kernel, by decide +kernel⟩, by decide⟩, q_344, q_345⟩
theorem LVx_L_35 : u_LV RL 35 RX12 yX12_end cX12_end 2 (some .boolean) 1 := ⟨⟨q_1215, q_13, q_1218, ⟨by decide +kernel, by decide +kernel, by decide +kernel⟩, by decide⟩, q_1216, q_1217⟩
theorem LVx_L_36 : u_LV RL 36 RX11 yX11_field cX11_field 2 (some .int) 0 := ⟨⟨q_347, q_1, q_350, ⟨by decide +kernel, by decide +kernel, by decide +kernel⟩, by decide⟩, q_348, q_349⟩
theorem LVx_L_40 : u_LV RL 40 RX12 yX12_field cX12_field 3 (some .int) 0 := ⟨⟨q_1222, q_13, q_1225, ⟨by decide +kernel, by decide +kernel, by decide +kernel⟩, by decide⟩, q_1223, q_1224⟩
theorem LVx_L_41 : u_LV RL 41 RX11 yX11_people cX11_people 2 (some .int) 0 := ⟨⟨q_496, q_1, q_499, ⟨by decide +kernel, by decide +kernel, by decide +kernel⟩, by decide⟩, q_497, q_498⟩
theorem LVx_L_44 : u_LV RL 44 RX12 yX12_people cX12_people 4 (some .int) 0 := ⟨⟨q_1258, q_13, q_1261, ⟨by decide +kernel, by decide +kernel, by decide +kernel⟩, by decide⟩, q_1259, q_1260⟩
theorem LVx_L_45 : u_LV RL 45 RX11 yX11_rule cX11_rule 3 (some .int) 0 := ⟨⟨q_511, q_1, q_514, ⟨by decide +kernel, by decide +kernel, by decide +kernel⟩, by decide⟩, q_512, q_513⟩
theorem LVx_L_48 : u_LV RL 48 RX12 yX12_rule cX12_rule 3 (some .int) 0 := ⟨⟨q_1270, q_13, q_1273, ⟨by decide +kernel, by decide +kernel, by decide +kernel⟩, by decide⟩, q_1271, q_1272⟩
theorem LVx_L_54 : u_LV RL 54 RX12 yX12_furrow cX12_furrow 3 (some .int) 2 := ⟨⟨q_1305, q_13, q_1308, ⟨by decide +kernel, by decide +kernel, by decide +kernel⟩, by decide⟩, q_1306, q_1307⟩
theorem LVx_L_55 : u_LV RL 55 RX12 yX12_thrown cX12_thrown 1 (some .int) 0 := ⟨⟨q_1207, q_13, q_1210, ⟨by decide +kernel, by decide +kernel, by decide +kernel⟩, by decide⟩, q_1208, q_1209⟩
theorem LVx_L_60 : u_LV RL 60 RX12 yX12_person cX12_person 3 (some .int) 2 := ⟨⟨q_1320, q_13, q_1323, ⟨by decide +kernel, by decide +kernel, by decide +kernel⟩, by decide⟩, q_1321, q_1322⟩
theorem LVx_L_61 : u_LV RL 61 RX11 yX11_sheet cX11_sheet 8 (some .int) 4 := ⟨⟨q_526, q_1, q_529, ⟨by decide +kernel, by decide +kernel, by decide +kernel⟩, by decide⟩, q_527, q_528⟩
theorem LVx_L_65 : u_LV RL 65 RX12 yX12_sheet cX12_sheet 9 (some .int) 4 := ⟨⟨q_1362, q_13, q_1365, ⟨by decide +kernel, by decide +kernel, by decide +kernel⟩, by decide⟩, q_1363, q_1364⟩
theorem LVx_L_66 : u_LV RL 66 RX11 yX11_crossing cX11_crossing 3 (some .int) 1 := ⟨⟨q_542, q_1, q_545, ⟨by decide +kernel, by decide +kernel, by decide +kernel⟩, by decide⟩, q_543, q_544⟩
theorem LVx_L_69 : u_LV RL 69 RX12 yX12_crossing cX12_crossing 4 (some .int) 1 := ⟨⟨q_1366, q_13, q_1369, ⟨by decide +kernel, by decide +kernel, by decide +kernel⟩, by decide⟩, q_1367, q_1368⟩
theorem LVx_L_70 : u_LV RL 70 RX11 yX11_show cX11_show 2 (some .int) 1 := ⟨⟨q_628, q_1, q_631, ⟨by decide +kernel, by decide +kernel, by decide +kernel⟩, by decide⟩, q_629, q_630⟩
theorem LVx_L_73 : u_LV RL 73 RX12 yX12_show cX12_show 3 (some .int) 1 := ⟨⟨q_1393, q_13, q_1396, ⟨by decide +kernel, by decide +kernel, by decide +kernel⟩, by decide⟩, q_1394, q_1395⟩
theorem LVx_L_74 : u_LV RL 74 RX11 yX11_glance cX11_glance 3 (some .int) 2 := ⟨⟨q_644, q_1, q_647, ⟨by decide +kernel, by decide +kernel, by decide +kernel⟩, by decide⟩, q_645, q_646⟩
theorem LVx_L_77 : u_LV RL 77 RX12 yX12_glance cX12_glance 3 (some .int) 2 := ⟨⟨q_1401, q_13, q_1404, ⟨by decide +kernel, by decide +kernel, by decide +kernel⟩, by decide⟩, q_1402, q_1403⟩
theorem LVx_L_78 : u_LV RL 78 RX11 yX11_rope cX11_rope 3 (some .int) 2 := ⟨⟨q_660, q_1, q_663, ⟨by decide +kernel, by decide +kernel, by decide +kernel⟩, by decide⟩, q_661, q_662⟩
theorem LVx_L_81 : u_LV RL 81 RX12 yX12_rope cX12_rope 3 (some .int) 2 := ⟨⟨q_1412, q_13, q_1415, ⟨by decide +kernel, by decide +kernel, by decide +kernel⟩, by decide⟩, q_1413, q_1414⟩
theorem LVx_L_82 : u_LV RL 82 RX11 yX11_sow cX11_sow 3 (some .int) 2 := ⟨⟨q_672, q_1, q_675, ⟨by decide +kernel, by decide +kernel, by decide +kernel⟩, by decide⟩, q_673, q_674⟩
theorem LVx_L_85 : u_LV RL 85 RX12 yX12_sow cX12_sow 3 (some .int) 2 := ⟨⟨q_1416, q_13, q_1419, ⟨by decide +kernel, by decide +kernel, by decide +kernel⟩, by decide⟩, q_1417, q_1418⟩
theorem LVx_L_86 : u_LV RL 86 RX11 yX11_week cX11_week 5 (some .int) 0 := ⟨⟨q_680, q_1, q_683, ⟨by decide +kernel, by decide +kernel, by decide +kernel⟩, by decide⟩, q_681, q_682⟩
theorem LVx_L_89 : u_LV RL 89 RX12 yX12_week cX12_week 3 (some .int) 0 := ⟨⟨q_1420, q_13, q_1423, ⟨by decide +kernel, by decide +kernel, by decide +kernel⟩, by decide⟩, q_1421, q_1422⟩
theorem LVx_L_90 : u_LV RL 90 RX11 yX11_undo cX11_undo 1 (some .int) 0 := ⟨⟨q_695, q_1, q_698, ⟨by decide +kernel, by decide +kernel, by decide +kernel⟩, by decide⟩, q_696, q_697⟩
theorem LVx_L_93 : u_LV RL 93 RX12 yX12_undo cX12_undo 2 (some .int) 0 := ⟨⟨q_1432, q_13, q_1435, ⟨by decide +kernel, by decide +kernel, by decide +kernel⟩, by decide⟩, q_1433, q_1434⟩
theorem LVx_L_94 : u_LV RL 94 RX11 yX11_later cX11_later 3 (some .int) 1 := ⟨⟨q_703, q_1, q_706, ⟨by decide +kernel, by decide +kernel, by decide +kernel⟩, by decide⟩, q_704, q_705⟩
theorem LVx_L_97 : u_LV RL 97 RX12 yX12_later cX12_later 2 (some .int) 1 := ⟨⟨q_1436, q_13, q_1439, ⟨by decide +kernel, by decide +kernel, by decide +kernel⟩, by decide⟩, q_1437, q_1438⟩
theorem LVx_L_98 : u_LV RL 98 RX11 yX11_settles cX11_settles 3 (some .int) 0 := ⟨⟨q_712, q_1, q_715, ⟨by decide +kernel, by decide +kernel, by decide +kernel⟩, by decide⟩, q_713, q_714⟩
theorem LVx_L_101 : u_LV RL 101 RX12 yX12_settles cX12_settles 3 (some .int) 0 := ⟨⟨q_1440, q_13, q_1443, ⟨by decide +kernel, by decide +kernel, by decide +kernel⟩, by decide⟩, q_1441, q_1442⟩
theorem LVx_L_102 : u_LV RL 102 RX11 yX11_leaves cX11_leaves 3 (some .int) 1 := ⟨⟨q_729, q_1, q_732, ⟨by decide +kernel, by decide +kernel, by decide +kernel⟩, by decide⟩, q_730, q_731⟩
theorem LVx_L_105 : u_LV RL 105 RX12 yX12_leaves cX12_leaves 3 (some .int) 1 := ⟨⟨q_1449, q_13, q_1452, ⟨by decide +kernel, by decide +kernel, by decide +kernel⟩, by decide⟩, q_1450, q_1451⟩
theorem LVx_L_106 : u_LV RL 106 RX11 yX11_signs cX11_signs 3 (some .int) 2 := ⟨⟨q_735, q_1, q_738, ⟨by decide +kernel, by decide +kernel, by decide +kernel⟩, by decide⟩, q_736, q_737⟩
theorem LVx_L_109 : u_LV RL 109 RX12 yX12_signs cX12_signs 5 (some .int) 2 := ⟨⟨q_1453, q_13, q_1456, ⟨by decide +kernel, by decide +kernel, by decide +kernel⟩, by decide⟩, q_1454, q_1455⟩
theorem LVx_L_110 : u_LV RL 110 RX11 yX11_empties cX11_empties 2 (some .int) 1 := ⟨⟨q_762, q_1, q_765, ⟨by decide +kernel, by decide +kernel, by decide +kernel⟩, by decide⟩, q_763, q_764⟩
theorem LVx_L_113 : u_LV RL 113 RX12 yX12_empties cX12_empties 4 (some .int) 1 := ⟨⟨q_1468, q_13, q_1471, ⟨by decide +kernel, by decide +kernel, by decide +kernel⟩, by decide⟩, q_1469, q_1470⟩
theorem LVx_L_114 : u_LV RL 114 RX11 yX11_weakest cX11_weakest 6 (some .int) 1 := ⟨⟨q_766, q_1, q_769, ⟨by decide +kernel, by decide +kernel, by decide +kernel⟩, by decide⟩, q_767, q_768⟩
theorem LVx_L_117 : u_LV RL 117 RX12 yX12_weakest cX12_weakest 5 (some .int) 1 := ⟨⟨q_1476, q_13, q_1479, ⟨by decide +kernel, by decide +kernel, by decide +kernel⟩, by decide⟩, q_1477, q_1478⟩
theorem LVx_L_118 : u_LV RL 118 RX11 yX11_mean cX11_mean 4 (some .int) 0 := ⟨⟨q_770, q_1, q_773, ⟨by decide +kernel, by decide +kernel, by decide +kernel⟩, by decide⟩, q_771, q_772⟩
theorem LVx_L_121 : u_LV RL 121 RX12 yX12_mean cX12_mean 3 (some .int) 0 := ⟨⟨q_1485, q_13, q_1488, ⟨by decide +kernel, by decide +kernel, by decide +kernel⟩, by decide⟩, q_1486, q_1487⟩
theorem LVx_L_122 : u_LV RL 122 RX11 yX11_depends cX11_depends 5 (some .int) 1 := ⟨⟨q_781, q_1, q_784, ⟨by decide +kernel, by decide +kernel, by decide +kernel⟩, by decide⟩, q_782, q_783⟩
theorem LVx_L_125 : u_LV RL 125 RX12 yX12_depends cX12_depends 4 (some .int) 1 := ⟨⟨q_1496, q_13, q_1499, ⟨by decide +kernel, by decide +kernel, by decide +kernel⟩, by decide⟩, q_1497, q_1498⟩
theorem LVx_L_126 : u_LV RL 126 RX11 yX11_cut cX11_cut 9 (some .int) 2 := ⟨⟨q_790, q_1, q_793, ⟨by decide +kernel, by decide +kernel, by decide +kernel⟩, by decide⟩, q_791, q_792⟩
theorem LVx_L_129 : u_LV RL 129 RX12 yX12_cut cX12_cut 6 (some .int) 2 := ⟨⟨q_1504, q_13, q_1507, ⟨by decide +kernel, by decide +kernel, by decide +kernel⟩, by decide⟩, q_1505, q_1506⟩
theorem LVx_L_130 : u_LV RL 130 RX11 yX11_faces cX11_faces 7 (some .int) 0 := ⟨⟨q_798, q_1, q_801, ⟨by decide +kernel, by decide +kernel, by decide +kernel⟩, by decide⟩, q_799, q_800⟩
theorem LVx_L_133 : u_LV RL 133 RX12 yX12_faces cX12_faces 7 (some .int) 0 := ⟨⟨q_1512, q_13, q_1515, ⟨by decide +kernel, by decide +kernel, by decide +kernel⟩, by decide⟩, q_1513, q_1514⟩
theorem LVx_L_134 : u_LV RL 134 RX11 yX11_knows cX11_knows 7 (some .int) 1 := ⟨⟨q_814, q_1, q_817, ⟨by decide +kernel, by decide +kernel, by decide +kernel⟩, by decide⟩, q_815, q_816⟩
theorem LVx_L_137 : u_LV RL 137 RX12 yX12_knows cX12_knows 7 (some .int) 1 := ⟨⟨q_1516, q_13, q_1519, ⟨by decide +kernel, by decide +kernel, by decide +kernel⟩, by decide⟩, q_1517, q_1518⟩
theorem LVx_L_138 : u_LV RL 138 RX11 yX11_circle cX11_circle 5 (some .int) 0 := ⟨⟨q_826, q_1, q_829, ⟨by decide +kernel, by decide +kernel, by decide +kernel⟩, by decide⟩, q_827, q_828⟩
theorem LVx_L_141 : u_LV RL 141 RX12 yX12_circle cX12_circle 5 (some .int) 0 := ⟨⟨q_1524, q_13, q_1527, ⟨by decide +kernel, by decide +kernel, by decide +kernel⟩, by decide⟩, q_1525, q_1526⟩
theorem LVx_L_142 : u_LV RL 142 RX11 yX11_spreads cX11_spreads 7 (some .int) 1 := ⟨⟨q_834, q_1, q_837, ⟨by decide +kernel, by decide +kernel, by decide +kernel⟩, by decide⟩, q_835, q_836⟩
theorem LVx_L_145 : u_LV RL 145 RX12 yX12_spreads cX12_spreads 8 (some .int) 1 := ⟨⟨q_1528, q_13, q_1531, ⟨by decide +kernel, by decide +kernel, by decide +kernel⟩, by decide⟩, q_1529, q_1530⟩
theorem LVx_L_146 : u_LV RL 146 RX11 yX11_unlike cX11_unlike 4 (some .int) 0 := ⟨⟨q_842, q_1, q_845, ⟨by decide +kernel, by decide +kernel, by decide +kernel⟩, by decide⟩, q_843, q_844⟩
theorem LVx_L_149 : u_LV RL 149 RX12 yX12_unlike cX12_unlike 4 (some .int) 0 := ⟨⟨q_1532, q_13, q_1535, ⟨by decide +kernel, by decide +kernel, by decide +kernel⟩, by decide⟩, q_1533, q_1534⟩
theorem LVx_L_150 : u_LV RL 150 RX11 yX11_dig cX11_dig 3 (some .int) 2 := ⟨⟨q_850, q_1, q_853, ⟨by decide +kernel, by decide +kernel, by decide +kernel⟩, by decide⟩, q_851, q_852⟩
theorem LVx_L_153 : u_LV RL 153 RX12 yX12_dig cX12_dig 3 (some .int) 2 := ⟨⟨q_1536, q_13, q_1539, ⟨by decide +kernel, by decide +kernel, by decide +kernel⟩, by decide⟩, q_1537, q_1538⟩
theorem LVx_L_154 : u_LV RL 154 RX11 yX11_forget cX11_forget 2 (some .int) 0 := ⟨⟨q_859, q_1, q_862, ⟨by decide +kernel, by decide +kernel, by decide +kernel⟩, by decide⟩, q_860, q_861⟩
theorem LVx_L_157 : u_LV RL 157 RX12 yX12_forget cX12_forget 2 (some .int) 0 := ⟨⟨q_1540, q_13, q_1543, ⟨by decide +kernel, by decide +kernel, by decide +kernel⟩, by decide⟩, q_1541, q_1542⟩
theorem LVx_L_158 : u_LV RL 158 RX11 yX11_courses cX11_courses 4 (some .int) 0 := ⟨⟨q_863, q_1, q_866, ⟨by decide +kernel, by decide +kernel, by decide +kernel⟩, by decide⟩, q_864, q_865⟩
theorem LVx_L_161 : u_LV RL 161 RX12 yX12_courses cX12_courses 6 (some .int) 0 := ⟨⟨q_1544, q_13, q_1547, ⟨by decide +kernel, by decide +kernel, by decide +kernel⟩, by decide⟩, q_1545, q_1546⟩
theorem LVx_L_162 : u_LV RL 162 RX11 yX11_sure cX11_sure 6 (some .int) 0 := ⟨⟨q_871, q_1, q_874, ⟨by decide +kernel, by decide +kernel, by decide +kernel⟩, by decide⟩, q_872, q_873⟩
theorem LVx_L_165 : u_LV RL 165 RX12 yX12_sure cX12_sure 6 (some .int) 0 := ⟨⟨q_1552, q_13, q_1555, ⟨by decide +kernel, by decide +kernel, by decide +kernel⟩, by decide⟩, q_1553, q_1554⟩
theorem LVx_L_166 : u_LV RL 166 RX11 yX11_next cX11_next 7 (some .int) 0 := ⟨⟨q_880, q_1, q_883, ⟨by decide +kernel, by decide +kernel, by decide +kernel⟩, by decide⟩, q_881, q_882⟩
theorem LVx_L_169 : u_LV RL 169 RX12 yX12_next cX12_next 5 (some .int) 0 := ⟨⟨q_1560, q_13, q_1563, ⟨by decide +kernel, by decide +kernel, by decide +kernel⟩, by decide⟩, q_1561, q_1562⟩
theorem LVx_L_170 : u_LV RL 170 RX11 yX11_dues cX11_dues 6 (some .int) 1 := ⟨⟨q_884, q_1, q_887, ⟨by decide +kernel, by decide +kernel, by decide +kernel⟩, by decide⟩, q_885, q_886⟩
theorem LVx_L_173 : u_LV RL 173 RX12 yX12_dues cX12_dues 7 (some .int) 1 := ⟨⟨q_1564, q_13, q_1567, ⟨by decide +kernel, by decide +kernel, by decide +kernel⟩, by decide⟩, q_1565, q_1566⟩
theorem LVx_L_174 : u_LV RL 174 RX11 yX11_cheapest cX11_cheapest 6 (some .int) 1 := ⟨⟨q_902, q_1, q_905, ⟨by decide +kernel, by decide +kernel, by decide +kernel⟩, by decide⟩, q_903, q_904⟩
theorem LVx_L_177 : u_LV RL 177 RX12 yX12_cheapest cX12_cheapest 4 (some .int) 1 := ⟨⟨q_1568, q_13, q_1571, ⟨by decide +kernel, by decide +kernel, by decide +kernel⟩, by decide⟩, q_1569, q_1570⟩
theorem LVx_L_178 : u_LV RL 178 RX11 yX11_yard cX11_yard 4 (some .int) 1 := ⟨⟨q_906, q_1, q_909, ⟨by decide +kernel, by decide +kernel, by decide +kernel⟩, by decide⟩, q_907, q_908⟩
theorem LVx_L_181 : u_LV RL 181 RX12 yX12_yard cX12_yard 2 (some .int) 1 := ⟨⟨q_1572, q_13, q_1575, ⟨by decide +kernel, by decide +kernel, by decide +kernel⟩, by decide⟩, q_1573, q_1574⟩
theorem LVx_L_182 : u_LV RL 182 RX11 yX11_harvest cX11_harvest 5 (some .int) 1 := ⟨⟨q_910, q_1, q_913, ⟨by decide +kernel, by decide +kernel, by decide +kernel⟩, by decide⟩, q_911, q_912⟩
theorem LVx_L_185 : u_LV RL 185 RX12 yX12_harvest cX12_harvest 5 (some .int) 1 := ⟨⟨q_1576, q_13, q_1579, ⟨by decide +kernel, by decide +kernel, by decide +kernel⟩, by decide⟩, q_1577, q_1578⟩
theorem LVx_L_186 : u_LV RL 186 RX11 yX11_owed cX11_owed 7 (some .int) 2 := ⟨⟨q_918, q_1, q_921, ⟨by decide +kernel, by decide +kernel, by decide +kernel⟩, by decide⟩, q_919, q_920⟩
theorem LVx_L_189 : u_LV RL 189 RX12 yX12_owed cX12_owed 7 (some .int) 2 := ⟨⟨q_1580, q_13, q_1583, ⟨by decide +kernel, by decide +kernel, by decide +kernel⟩, by decide⟩, q_1581, q_1582⟩
theorem LVx_L_190 : u_LV RL 190 RX11 yX11_floods cX11_floods 9 (some .int) 3 := ⟨⟨q_923, q_1, q_926, ⟨by decide +kernel, by decide +kernel, by decide +kernel⟩, by decide⟩, q_924, q_925⟩
theorem LVx_L_194 : u_LV RL 194 RX12 yX12_floods cX12_floods 9 (some .int) 3 := ⟨⟨q_1584, q_13, q_1587, ⟨by decide +kernel, by decide +kernel, by decide +kernel⟩, by decide⟩, q_1585, q_1586⟩
theorem LVx_L_195 : u_LV RL 195 RX11 yX11_twice cX11_twice 12 (some .int) 2 := ⟨⟨q_934, q_1, q_937, ⟨by decide +kernel, by decide +kernel, by decide +kernel⟩, by decide⟩, q_935, q_936⟩
theorem LVx_L_198 : u_LV RL 198 RX12 yX12_twice cX12_twice 10 (some .int) 2 := ⟨⟨q_1591, q_13, q_1594, ⟨by decide +kernel, by decide +kernel, by decide +kernel⟩, by decide⟩, q_1592, q_1593⟩
theorem LVx_L_199 : u_LV RL 199 RX11 yX11_rests cX11_rests 6 (some .int) 2 := ⟨⟨q_939, q_1, q_942, ⟨by decide +kernel, by decide +kernel, by decide +kernel⟩, by decide⟩, q_940, q_941⟩
theorem LVx_L_202 : u_LV RL 202 RX12 yX12_rests cX12_rests 6 (some .int) 2 := ⟨⟨q_1595, q_13, q_1598, ⟨by decide +kernel, by decide +kernel, by decide +kernel⟩, by decide⟩, q_1596, q_1597⟩
theorem LVx_L_203 : u_LV RL 203 RX11 yX11_law cX11_law 4 (some .int) 0 := ⟨⟨q_952, q_1, q_955, ⟨by decide +kernel, by decide +kernel, by decide +kernel⟩, by decide⟩, q_953, q_954⟩
theorem LVx_L_206 : u_LV RL 206 RX12 yX12_law cX12_law 6 (some .int) 0 := ⟨⟨q_1608, q_13, q_1611, ⟨by decide +kernel, by decide +kernel, by decide +kernel⟩, by decide⟩, q_1609, q_1610⟩
theorem LVx_L_207 : u_LV RL 207 RX11 yX11_years cX11_years 4 (some .int) 2 := ⟨⟨q_956, q_1, q_959, ⟨by decide +kernel, by decide +kernel, by decide +kernel⟩, by decide⟩, q_957, q_958⟩
theorem LVx_L_210 : u_LV RL 210 RX12 yX12_years cX12_years 7 (some .int) 2 := ⟨⟨q_1616, q_13, q_1619, ⟨by decide +kernel, by decide +kernel, by decide +kernel⟩, by decide⟩, q_1617, q_1618⟩
theorem LVx_L_211 : u_LV RL 211 RX11 yX11_keep cX11_keep 2 (some .boolean) 1 := ⟨⟨q_969, q_1, q_972, ⟨by decide +kernel, by decide +kernel, by decide +kernel⟩, by decide⟩, q_970, q_971⟩
theorem LVx_L_214 : u_LV RL 214 RX12 yX12_keep cX12_keep 2 (some .boolean) 1 := ⟨⟨q_1625, q_13, q_1628, ⟨by decide +kernel, by decide +kernel, by decide +kernel⟩, by decide⟩, q_1626, q_1627⟩
theorem LVx_L_215 : u_LV RL 215 RX11 yX11_again cX11_again 2 (some .boolean) 1 := ⟨⟨q_977, q_1, q_980, ⟨by decide +kernel, by decide +kernel, by decide +kernel⟩, by decide⟩, q_978, q_979⟩
theorem LVx_L_218 : u_LV RL 218 RX12 yX12_again cX12_again 3 (some .boolean) 1 := ⟨⟨q_1629, q_13, q_1632, ⟨by decide +kernel, by decide +kernel, by decide +kernel⟩, by decide⟩, q_1630, q_1631⟩
theorem LVx_L_219 : u_LV RL 219 RX11 yX11_count cX11_count 2 (some .int) 1 := ⟨⟨q_985, q_1, q_988, ⟨by decide +kernel, by decide +kernel, by decide +kernel⟩, by decide⟩, q_986, q_987⟩
theorem LVx_L_222 : u_LV RL 222 RX12 yX12_count cX12_count 2 (some .int) 1 := ⟨⟨q_1633, q_13, q_1636, ⟨by decide +kernel, by decide +kernel, by decide +kernel⟩, by decide⟩, q_1634, q_1635⟩
theorem LVx_L_226 : u_LV RL 226 RX12 yX12_row cX12_row 2 (some .long) 1 := ⟨⟨q_1641, q_13, q_1644, ⟨by decide +kernel, by decide +kernel, by decide +kernel⟩, by decide⟩, q_1642, q_1643⟩
theorem dL_law_0 : decode cL_law 0 = .ok (.new 8, 3) := by decide +kernel
theorem dL_law_3 : decode cL_law 3 = .ok (.dup, 1) := by decide +kernel
theorem dL_law_4 : decode cL_law 4 = .ok (.invokespecial 22, 3) := by decide +kernel
theorem dL_law_7 : decode cL_law 7 = .ok (.astore_n 1, 1) := by decide +kernel
theorem dL_law_8 : decode cL_law 8 = .ok (.new 23, 3) := by decide +kernel
theorem dL_law_11 : decode cL_law 11 = .ok (.dup, 1) := by decide +kernel
theorem dL_law_12 : decode cL_law 12 = .ok (.invokespecial 25, 3) := by decide +kernel
theorem dL_law_15 : decode cL_law 15 = .ok (.astore_n 2, 1) := by decide +kernel
theorem dL_law_16 : decode cL_law 16 = .ok (.iconst 1, 1) := by decide +kernel
theorem dL_law_17 : decode cL_law 17 = .ok (.newarray .long, 2) := by decide +kernel
theorem dL_law_19 : decode cL_law 19 = .ok (.astore_n 3, 1) := by decide +kernel
theorem dL_law_20 : decode cL_law 20 = .ok (.iconst 0, 1) := by decide +kernel
theorem dL_law_21 : decode cL_law 21 = .ok (.istore 4, 2) := by decide +kernel
theorem dL_law_23 : decode cL_law 23 = .ok (.iload 4, 2) := by decide +kernel
theorem dL_law_25 : decode cL_law 25 = .ok (.aload_n 0, 1) := by decide +kernel
theorem dL_law_26 : decode cL_law 26 = .ok (.arraylength, 1) := by decide +kernel
theorem dL_law_27 : decode cL_law 27 = .ok (.iconst 5, 1) := by decide +kernel
theorem dL_law_28 : decode cL_law 28 = .ok (.isub, 1) := by decide +kernel
theorem dL_law_29 : decode cL_law 29 = .ok (.if_icmp .gt 1537, 3) := by decide +kernel
theorem dL_law_32 : decode cL_law 32 = .ok (.aload_n 0, 1) := by decide +kernel
theorem dL_law_33 : decode cL_law 33 = .ok (.iload 4, 2) := by decide +kernel
theorem dL_law_35 : decode cL_law 35 = .ok (.iaload, 1) := by decide +kernel
theorem dL_law_36 : decode cL_law 36 = .ok (.bipush 63, 2) := by decide +kernel
theorem dL_law_38 : decode cL_law 38 = .ok (.iand, 1) := by decide +kernel
theorem dL_law_39 : decode cL_law 39 = .ok (.tableswitch 1521 0 47 #[205, 230, 255, 268, 281, 294, 362, 430, 491, 516, 541, 578, 615, 652, 665, 678, 703, 716, 741, 778, 803, 828, 841, 866, 903, 916, 941, 954, 979, 992, 1029, 1042, 1055, 1068, 1081, 1106, 1131, 1156, 1181, 1218, 1267, 1304, 1341, 1354, 1391, 1416, 1441, 1466], 205) := by decide +kernel
theorem dL_law_244 : decode cL_law 244 = .ok (.aload_n 1, 1) := by decide +kernel
theorem dL_law_245 : decode cL_law 245 = .ok (.aload_n 0, 1) := by decide +kernel
theorem dL_law_246 : decode cL_law 246 = .ok (.iload 4, 2) := by decide +kernel
theorem dL_law_248 : decode cL_law 248 = .ok (.iconst 1, 1) := by decide +kernel
theorem dL_law_249 : decode cL_law 249 = .ok (.iadd, 1) := by decide +kernel
theorem dL_law_250 : decode cL_law 250 = .ok (.iaload, 1) := by decide +kernel
theorem dL_law_251 : decode cL_law 251 = .ok (.invokevirtual 26, 3) := by decide +kernel
theorem dL_law_254 : decode cL_law 254 = .ok (.aload_n 2, 1) := by decide +kernel
theorem dL_law_255 : decode cL_law 255 = .ok (.aload_n 0, 1) := by decide +kernel
theorem dL_law_256 : decode cL_law 256 = .ok (.iload 4, 2) := by decide +kernel
theorem dL_law_258 : decode cL_law 258 = .ok (.iconst 1, 1) := by decide +kernel
theorem dL_law_259 : decode cL_law 259 = .ok (.iadd, 1) := by decide +kernel
theorem dL_law_260 : decode cL_law 260 = .ok (.iaload, 1) := by decide +kernel
theorem dL_law_261 : decode cL_law 261 = .ok (.invokevirtual 30, 3) := by decide +kernel
theorem dL_law_264 : decode cL_law 264 = .ok (.if_icmp .eq 1296, 3) := by decide +kernel
theorem dL_law_267 : decode cL_law 267 = .ok (.iconst 0, 1) := by decide +kernel
theorem dL_law_268 : decode cL_law 268 = .ok (.ireturn, 1) := by decide +kernel
theorem dL_law_269 : decode cL_law 269 = .ok (.aload_n 1, 1) := by decide +kernel
theorem dL_law_270 : decode cL_law 270 = .ok (.aload_n 0, 1) := by decide +kernel
theorem dL_law_271 : decode cL_law 271 = .ok (.iload 4, 2) := by decide +kernel
theorem dL_law_273 : decode cL_law 273 = .ok (.iconst 1, 1) := by decide +kernel
theorem dL_law_274 : decode cL_law 274 = .ok (.iadd, 1) := by decide +kernel
theorem dL_law_275 : decode cL_law 275 = .ok (.iaload, 1) := by decide +kernel
theorem dL_law_276 : decode cL_law 276 = .ok (.invokevirtual 31, 3) := by decide +kernel
theorem dL_law_279 : decode cL_law 279 = .ok (.aload_n 2, 1) := by decide +kernel
theorem dL_law_280 : decode cL_law 280 = .ok (.aload_n 0, 1) := by decide +kernel
theorem dL_law_281 : decode cL_law 281 = .ok (.iload 4, 2) := by decide +kernel
theorem dL_law_283 : decode cL_law 283 = .ok (.iconst 1, 1) := by decide +kernel
theorem dL_law_284 : decode cL_law 284 = .ok (.iadd, 1) := by decide +kernel
theorem dL_law_285 : decode cL_law 285 = .ok (.iaload, 1) := by decide +kernel
theorem dL_law_286 : decode cL_law 286 = .ok (.invokevirtual 35, 3) := by decide +kernel
theorem dL_law_289 : decode cL_law 289 = .ok (.if_icmp .eq 1271, 3) := by decide +kernel
theorem dL_law_292 : decode cL_law 292 = .ok (.iconst 0, 1) := by decide +kernel
theorem dL_law_293 : decode cL_law 293 = .ok (.ireturn, 1) := by decide +kernel
theorem dL_law_294 : decode cL_law 294 = .ok (.aload_n 1, 1) := by decide +kernel
theorem dL_law_295 : decode cL_law 295 = .ok (.invokevirtual 36, 3) := by decide +kernel
theorem dL_law_298 : decode cL_law 298 = .ok (.aload_n 2, 1) := by decide +kernel
theorem dL_law_299 : decode cL_law 299 = .ok (.invokevirtual 40, 3) := by decide +kernel
theorem dL_law_302 : decode cL_law 302 = .ok (.if_icmp .eq 1258, 3) := by decide +kernel
theorem dL_law_305 : decode cL_law 305 = .ok (.iconst 0, 1) := by decide +kernel
theorem dL_law_306 : decode cL_law 306 = .ok (.ireturn, 1) := by decide +kernel
theorem dL_law_307 : decode cL_law 307 = .ok (.aload_n 1, 1) := by decide +kernel
theorem dL_law_308 : decode cL_law 308 = .ok (.invokevirtual 41, 3) := by decide +kernel
theorem dL_law_311 : decode cL_law 311 = .ok (.aload_n 2, 1) := by decide +kernel
theorem dL_law_312 : decode cL_law 312 = .ok (.invokevirtual 44, 3) := by decide +kernel
theorem dL_law_315 : decode cL_law 315 = .ok (.if_icmp .eq 1245, 3) := by decide +kernel
theorem dL_law_318 : decode cL_law 318 = .ok (.iconst 0, 1) := by decide +kernel
theorem dL_law_319 : decode cL_law 319 = .ok (.ireturn, 1) := by decide +kernel
theorem dL_law_320 : decode cL_law 320 = .ok (.aload_n 1, 1) := by decide +kernel
theorem dL_law_321 : decode cL_law 321 = .ok (.invokevirtual 45, 3) := by decide +kernel
theorem dL_law_324 : decode cL_law 324 = .ok (.aload_n 2, 1) := by decide +kernel
theorem dL_law_325 : decode cL_law 325 = .ok (.invokevirtual 48, 3) := by decide +kernel
theorem dL_law_328 : decode cL_law 328 = .ok (.if_icmp .eq 1232, 3) := by decide +kernel
theorem dL_law_331 : decode cL_law 331 = .ok (.iconst 0, 1) := by decide +kernel
theorem dL_law_332 : decode cL_law 332 = .ok (.ireturn, 1) := by decide +kernel
theorem dL_law_333 : decode cL_law 333 = .ok (.aload_n 1, 1) := by decide +kernel
theorem dL_law_334 : decode cL_law 334 = .ok (.aload_n 0, 1) := by decide +kernel
theorem dL_law_335 : decode cL_law 335 = .ok (.iload 4, 2) := by decide +kernel
theorem dL_law_337 : decode cL_law 337 = .ok (.iconst 1, 1) := by decide +kernel
theorem dL_law_338 : decode cL_law 338 = .ok (.iadd, 1) := by decide +kernel
theorem dL_law_339 : decode cL_law 339 = .ok (.iaload, 1) := by decide +kernel
theorem dL_law_340 : decode cL_law 340 = .ok (.aload_n 0, 1) := by decide +kernel
theorem dL_law_341 : decode cL_law 341 = .ok (.iload 4, 2) := by decide +kernel
theorem dL_law_343 : decode cL_law 343 = .ok (.iconst 2, 1) := by decide +kernel
theorem dL_law_344 : decode cL_law 344 = .ok (.iadd, 1) := by decide +kernel
theorem dL_law_345 : decode cL_law 345 = .ok (.iaload, 1) := by decide +kernel
theorem dL_law_346 : decode cL_law 346 = .ok (.aload_n 3, 1) := by decide +kernel
theorem dL_law_347 : decode cL_law 347 = .ok (.invokestatic 49, 3) := by decide +kernel
theorem dL_law_350 : decode cL_law 350 = .ok (.istore 5, 2) := by decide +kernel
theorem dL_law_352 : decode cL_law 352 = .ok (.aload_n 2, 1) := by decide +kernel
theorem dL_law_353 : decode cL_law 353 = .ok (.aload_n 0, 1) := by decide +kernel
theorem dL_law_354 : decode cL_law 354 = .ok (.iload 4, 2) := by decide +kernel
theorem dL_law_356 : decode cL_law 356 = .ok (.iconst 1, 1) := by decide +kernel
theorem dL_law_357 : decode cL_law 357 = .ok (.iadd, 1) := by decide +kernel
theorem dL_law_358 : decode cL_law 358 = .ok (.iaload, 1) := by decide +kernel
theorem dL_law_359 : decode cL_law 359 = .ok (.aload_n 0, 1) := by decide +kernel
theorem dL_law_360 : decode cL_law 360 = .ok (.iload 4, 2) := by decide +kernel
theorem dL_law_362 : decode cL_law 362 = .ok (.iconst 2, 1) := by decide +kernel
theorem dL_law_363 : decode cL_law 363 = .ok (.iadd, 1) := by decide +kernel
theorem dL_law_364 : decode cL_law 364 = .ok (.iaload, 1) := by decide +kernel
theorem dL_law_365 : decode cL_law 365 = .ok (.invokevirtual 54, 3) := by decide +kernel
theorem dL_law_368 : decode cL_law 368 = .ok (.istore 6, 2) := by decide +kernel
theorem dL_law_370 : decode cL_law 370 = .ok (.aload_n 2, 1) := by decide +kernel
theorem dL_law_371 : decode cL_law 371 = .ok (.invokevirtual 55, 3) := by decide +kernel
theorem dL_law_374 : decode cL_law 374 = .ok (.iload 5, 2) := by decide +kernel
theorem dL_law_376 : decode cL_law 376 = .ok (.if_icmp .eq 5, 3) := by decide +kernel
theorem dL_law_379 : decode cL_law 379 = .ok (.iconst 0, 1) := by decide +kernel
theorem dL_law_380 : decode cL_law 380 = .ok (.ireturn, 1) := by decide +kernel
theorem dL_law_381 : decode cL_law 381 = .ok (.iload 5, 2) := by decide +kernel
theorem dL_law_383 : decode cL_law 383 = .ok (.ifCond .ne 15, 3) := by decide +kernel
theorem dL_law_386 : decode cL_law 386 = .ok (.aload_n 3, 1) := by decide +kernel
theorem dL_law_387 : decode cL_law 387 = .ok (.iconst 0, 1) := by decide +kernel
theorem dL_law_388 : decode cL_law 388 = .ok (.laload, 1) := by decide +kernel
theorem dL_law_389 : decode cL_law 389 = .ok (.iload 6, 2) := by decide +kernel
theorem dL_law_391 : decode cL_law 391 = .ok (.i2l, 1) := by decide +kernel
theorem dL_law_392 : decode cL_law 392 = .ok (.lcmp, 1) := by decide +kernel
theorem dL_law_393 : decode cL_law 393 = .ok (.ifCond .eq 5, 3) := by decide +kernel
theorem dL_law_396 : decode cL_law 396 = .ok (.iconst 0, 1) := by decide +kernel
theorem dL_law_397 : decode cL_law 397 = .ok (.ireturn, 1) := by decide +kernel
theorem dL_law_398 : decode cL_law 398 = .ok (.goto 1162, 3) := by decide +kernel
theorem dL_law_401 : decode cL_law 401 = .ok (.aload_n 1, 1) := by decide +kernel
theorem dL_law_402 : decode cL_law 402 = .ok (.aload_n 0, 1) := by decide +kernel
theorem dL_law_403 : decode cL_law 403 = .ok (.iload 4, 2) := by decide +kernel
theorem dL_law_405 : decode cL_law 405 = .ok (.iconst 1, 1) := by decide +kernel
theorem dL_law_406 : decode cL_law 406 = .ok (.iadd, 1) := by decide +kernel
theorem dL_law_407 : decode cL_law 407 = .ok (.iaload, 1) := by decide +kernel
theorem dL_law_408 : decode cL_law 408 = .ok (.aload_n 0, 1) := by decide +kernel
theorem dL_law_409 : decode cL_law 409 = .ok (.iload 4, 2) := by decide +kernel
theorem dL_law_411 : decode cL_law 411 = .ok (.iconst 2, 1) := by decide +kernel
theorem dL_law_412 : decode cL_law 412 = .ok (.iadd, 1) := by decide +kernel
theorem dL_law_413 : decode cL_law 413 = .ok (.iaload, 1) := by decide +kernel
theorem dL_law_414 : decode cL_law 414 = .ok (.aload_n 3, 1) := by decide +kernel
theorem dL_law_415 : decode cL_law 415 = .ok (.invokestatic 58, 3) := by decide +kernel
theorem dL_law_418 : decode cL_law 418 = .ok (.istore 5, 2) := by decide +kernel
theorem dL_law_420 : decode cL_law 420 = .ok (.aload_n 2, 1) := by decide +kernel
theorem dL_law_421 : decode cL_law 421 = .ok (.aload_n 0, 1) := by decide +kernel
theorem dL_law_422 : decode cL_law 422 = .ok (.iload 4, 2) := by decide +kernel
theorem dL_law_424 : decode cL_law 424 = .ok (.iconst 1, 1) := by decide +kernel
theorem dL_law_425 : decode cL_law 425 = .ok (.iadd, 1) := by decide +kernel
theorem dL_law_426 : decode cL_law 426 = .ok (.iaload, 1) := by decide +kernel
theorem dL_law_427 : decode cL_law 427 = .ok (.aload_n 0, 1) := by decide +kernel
theorem dL_law_428 : decode cL_law 428 = .ok (.iload 4, 2) := by decide +kernel
theorem dL_law_430 : decode cL_law 430 = .ok (.iconst 2, 1) := by decide +kernel
theorem dL_law_431 : decode cL_law 431 = .ok (.iadd, 1) := by decide +kernel
theorem dL_law_432 : decode cL_law 432 = .ok (.iaload, 1) := by decide +kernel
theorem dL_law_433 : decode cL_law 433 = .ok (.invokevirtual 60, 3) := by decide +kernel
theorem dL_law_436 : decode cL_law 436 = .ok (.istore 6, 2) := by decide +kernel
theorem dL_law_438 : decode cL_law 438 = .ok (.aload_n 2, 1) := by decide +kernel
theorem dL_law_439 : decode cL_law 439 = .ok (.invokevirtual 55, 3) := by decide +kernel
theorem dL_law_442 : decode cL_law 442 = .ok (.iload 5, 2) := by decide +kernel
theorem dL_law_444 : decode cL_law 444 = .ok (.if_icmp .eq 5, 3) := by decide +kernel
theorem dL_law_447 : decode cL_law 447 = .ok (.iconst 0, 1) := by decide +kernel
theorem dL_law_448 : decode cL_law 448 = .ok (.ireturn, 1) := by decide +kernel
theorem dL_law_449 : decode cL_law 449 = .ok (.iload 5, 2) := by decide +kernel
theorem dL_law_451 : decode cL_law 451 = .ok (.ifCond .ne 15, 3) := by decide +kernel
theorem dL_law_454 : decode cL_law 454 = .ok (.aload_n 3, 1) := by decide +kernel
theorem dL_law_455 : decode cL_law 455 = .ok (.iconst 0, 1) := by decide +kernel
theorem dL_law_456 : decode cL_law 456 = .ok (.laload, 1) := by decide +kernel
theorem dL_law_457 : decode cL_law 457 = .ok (.iload 6, 2) := by decide +kernel
theorem dL_law_459 : decode cL_law 459 = .ok (.i2l, 1) := by decide +kernel
theorem dL_law_460 : decode cL_law 460 = .ok (.lcmp, 1) := by decide +kernel
theorem dL_law_461 : decode cL_law 461 = .ok (.ifCond .eq 5, 3) := by decide +kernel
theorem dL_law_464 : decode cL_law 464 = .ok (.iconst 0, 1) := by decide +kernel
theorem dL_law_465 : decode cL_law 465 = .ok (.ireturn, 1) := by decide +kernel
theorem dL_law_466 : decode cL_law 466 = .ok (.goto 1094, 3) := by decide +kernel
theorem dL_law_469 : decode cL_law 469 = .ok (.aload_n 1, 1) := by decide +kernel
theorem dL_law_470 : decode cL_law 470 = .ok (.aload_n 0, 1) := by decide +kernel
theorem dL_law_471 : decode cL_law 471 = .ok (.iload 4, 2) := by decide +kernel
theorem dL_law_473 : decode cL_law 473 = .ok (.iconst 1, 1) := by decide +kernel
theorem dL_law_474 : decode cL_law 474 = .ok (.iadd, 1) := by decide +kernel
theorem dL_law_475 : decode cL_law 475 = .ok (.iaload, 1) := by decide +kernel
theorem dL_law_476 : decode cL_law 476 = .ok (.aload_n 0, 1) := by decide +kernel
theorem dL_law_477 : decode cL_law 477 = .ok (.iload 4, 2) := by decide +kernel
theorem dL_law_479 : decode cL_law 479 = .ok (.iconst 2, 1) := by decide +kernel
theorem dL_law_480 : decode cL_law 480 = .ok (.iadd, 1) := by decide +kernel
theorem dL_law_481 : decode cL_law 481 = .ok (.iaload, 1) := by decide +kernel
theorem dL_law_482 : decode cL_law 482 = .ok (.aload_n 0, 1) := by decide +kernel
theorem dL_law_483 : decode cL_law 483 = .ok (.iload 4, 2) := by decide +kernel
theorem dL_law_485 : decode cL_law 485 = .ok (.iconst 3, 1) := by decide +kernel
theorem dL_law_486 : decode cL_law 486 = .ok (.iadd, 1) := by decide +kernel
theorem dL_law_487 : decode cL_law 487 = .ok (.iaload, 1) := by decide +kernel
theorem dL_law_488 : decode cL_law 488 = .ok (.aload_n 0, 1) := by decide +kernel
theorem dL_law_489 : decode cL_law 489 = .ok (.iload 4, 2) := by decide +kernel
theorem dL_law_491 : decode cL_law 491 = .ok (.iconst 4, 1) := by decide +kernel
theorem dL_law_492 : decode cL_law 492 = .ok (.iadd, 1) := by decide +kernel
theorem dL_law_493 : decode cL_law 493 = .ok (.iaload, 1) := by decide +kernel
theorem dL_law_494 : decode cL_law 494 = .ok (.invokevirtual 61, 3) := by decide +kernel
theorem dL_law_497 : decode cL_law 497 = .ok (.aload_n 2, 1) := by decide +kernel
theorem dL_law_498 : decode cL_law 498 = .ok (.aload_n 0, 1) := by decide +kernel
theorem dL_law_499 : decode cL_law 499 = .ok (.iload 4, 2) := by decide +kernel
theorem dL_law_501 : decode cL_law 501 = .ok (.iconst 1, 1) := by decide +kernel
theorem dL_law_502 : decode cL_law 502 = .ok (.iadd, 1) := by decide +kernel
theorem dL_law_503 : decode cL_law 503 = .ok (.iaload, 1) := by decide +kernel
theorem dL_law_504 : decode cL_law 504 = .ok (.aload_n 0, 1) := by decide +kernel
theorem dL_law_505 : decode cL_law 505 = .ok (.iload 4, 2) := by decide +kernel
theorem dL_law_507 : decode cL_law 507 = .ok (.iconst 2, 1) := by decide +kernel
theorem dL_law_508 : decode cL_law 508 = .ok (.iadd, 1) := by decide +kernel
theorem dL_law_509 : decode cL_law 509 = .ok (.iaload, 1) := by decide +kernel
theorem dL_law_510 : decode cL_law 510 = .ok (.aload_n 0, 1) := by decide +kernel
theorem dL_law_511 : decode cL_law 511 = .ok (.iload 4, 2) := by decide +kernel
theorem dL_law_513 : decode cL_law 513 = .ok (.iconst 3, 1) := by decide +kernel
theorem dL_law_514 : decode cL_law 514 = .ok (.iadd, 1) := by decide +kernel
theorem dL_law_515 : decode cL_law 515 = .ok (.iaload, 1) := by decide +kernel
theorem dL_law_516 : decode cL_law 516 = .ok (.aload_n 0, 1) := by decide +kernel
theorem dL_law_517 : decode cL_law 517 = .ok (.iload 4, 2) := by decide +kernel
theorem dL_law_519 : decode cL_law 519 = .ok (.iconst 4, 1) := by decide +kernel
theorem dL_law_520 : decode cL_law 520 = .ok (.iadd, 1) := by decide +kernel
theorem dL_law_521 : decode cL_law 521 = .ok (.iaload, 1) := by decide +kernel
theorem dL_law_522 : decode cL_law 522 = .ok (.invokevirtual 65, 3) := by decide +kernel
theorem dL_law_525 : decode cL_law 525 = .ok (.if_icmp .eq 1035, 3) := by decide +kernel
theorem dL_law_528 : decode cL_law 528 = .ok (.iconst 0, 1) := by decide +kernel
theorem dL_law_529 : decode cL_law 529 = .ok (.ireturn, 1) := by decide +kernel
theorem dL_law_530 : decode cL_law 530 = .ok (.aload_n 1, 1) := by decide +kernel
theorem dL_law_531 : decode cL_law 531 = .ok (.aload_n 0, 1) := by decide +kernel
theorem dL_law_532 : decode cL_law 532 = .ok (.iload 4, 2) := by decide +kernel
theorem dL_law_534 : decode cL_law 534 = .ok (.iconst 1, 1) := by decide +kernel
theorem dL_law_535 : decode cL_law 535 = .ok (.iadd, 1) := by decide +kernel
theorem dL_law_536 : decode cL_law 536 = .ok (.iaload, 1) := by decide +kernel
theorem dL_law_537 : decode cL_law 537 = .ok (.invokevirtual 66, 3) := by decide +kernel
theorem dL_law_540 : decode cL_law 540 = .ok (.aload_n 2, 1) := by decide +kernel
theorem dL_law_541 : decode cL_law 541 = .ok (.aload_n 0, 1) := by decide +kernel
theorem dL_law_542 : decode cL_law 542 = .ok (.iload 4, 2) := by decide +kernel
theorem dL_law_544 : decode cL_law 544 = .ok (.iconst 1, 1) := by decide +kernel
theorem dL_law_545 : decode cL_law 545 = .ok (.iadd, 1) := by decide +kernel
theorem dL_law_546 : decode cL_law 546 = .ok (.iaload, 1) := by decide +kernel
theorem dL_law_547 : decode cL_law 547 = .ok (.invokevirtual 69, 3) := by decide +kernel
theorem dL_law_550 : decode cL_law 550 = .ok (.if_icmp .eq 1010, 3) := by decide +kernel
theorem dL_law_553 : decode cL_law 553 = .ok (.iconst 0, 1) := by decide +kernel
theorem dL_law_554 : decode cL_law 554 = .ok (.ireturn, 1) := by decide +kernel
theorem dL_law_555 : decode cL_law 555 = .ok (.aload_n 1, 1) := by decide +kernel
theorem dL_law_556 : decode cL_law 556 = .ok (.aload_n 0, 1) := by decide +kernel
theorem dL_law_557 : decode cL_law 557 = .ok (.iload 4, 2) := by decide +kernel
theorem dL_law_559 : decode cL_law 559 = .ok (.iconst 1, 1) := by decide +kernel
theorem dL_law_560 : decode cL_law 560 = .ok (.iadd, 1) := by decide +kernel
theorem dL_law_561 : decode cL_law 561 = .ok (.iaload, 1) := by decide +kernel
theorem dL_law_562 : decode cL_law 562 = .ok (.invokevirtual 70, 3) := by decide +kernel
theorem dL_law_565 : decode cL_law 565 = .ok (.aload_n 2, 1) := by decide +kernel
theorem dL_law_566 : decode cL_law 566 = .ok (.aload_n 0, 1) := by decide +kernel
theorem dL_law_567 : decode cL_law 567 = .ok (.iload 4, 2) := by decide +kernel
theorem dL_law_569 : decode cL_law 569 = .ok (.iconst 1, 1) := by decide +kernel
theorem dL_law_570 : decode cL_law 570 = .ok (.iadd, 1) := by decide +kernel
theorem dL_law_571 : decode cL_law 571 = .ok (.iaload, 1) := by decide +kernel
theorem dL_law_572 : decode cL_law 572 = .ok (.invokevirtual 73, 3) := by decide +kernel
theorem dL_law_575 : decode cL_law 575 = .ok (.if_icmp .eq 985, 3) := by decide +kernel
theorem dL_law_578 : decode cL_law 578 = .ok (.iconst 0, 1) := by decide +kernel
theorem dL_law_579 : decode cL_law 579 = .ok (.ireturn, 1) := by decide +kernel
theorem dL_law_580 : decode cL_law 580 = .ok (.aload_n 1, 1) := by decide +kernel
theorem dL_law_581 : decode cL_law 581 = .ok (.aload_n 0, 1) := by decide +kernel
theorem dL_law_582 : decode cL_law 582 = .ok (.iload 4, 2) := by decide +kernel
theorem dL_law_584 : decode cL_law 584 = .ok (.iconst 1, 1) := by decide +kernel
theorem dL_law_585 : decode cL_law 585 = .ok (.iadd, 1) := by decide +kernel
theorem dL_law_586 : decode cL_law 586 = .ok (.iaload, 1) := by decide +kernel
theorem dL_law_587 : decode cL_law 587 = .ok (.aload_n 0, 1) := by decide +kernel
theorem dL_law_588 : decode cL_law 588 = .ok (.iload 4, 2) := by decide +kernel
theorem dL_law_590 : decode cL_law 590 = .ok (.iconst 2, 1) := by decide +kernel
theorem dL_law_591 : decode cL_law 591 = .ok (.iadd, 1) := by decide +kernel
theorem dL_law_592 : decode cL_law 592 = .ok (.iaload, 1) := by decide +kernel
theorem dL_law_593 : decode cL_law 593 = .ok (.invokevirtual 74, 3) := by decide +kernel
theorem dL_law_596 : decode cL_law 596 = .ok (.aload_n 2, 1) := by decide +kernel
theorem dL_law_597 : decode cL_law 597 = .ok (.aload_n 0, 1) := by decide +kernel
theorem dL_law_598 : decode cL_law 598 = .ok (.iload 4, 2) := by decide +kernel
theorem dL_law_600 : decode cL_law 600 = .ok (.iconst 1, 1) := by decide +kernel
theorem dL_law_601 : decode cL_law 601 = .ok (.iadd, 1) := by decide +kernel
theorem dL_law_602 : decode cL_law 602 = .ok (.iaload, 1) := by decide +kernel
theorem dL_law_603 : decode cL_law 603 = .ok (.aload_n 0, 1) := by decide +kernel
theorem dL_law_604 : decode cL_law 604 = .ok (.iload 4, 2) := by decide +kernel
theorem dL_law_606 : decode cL_law 606 = .ok (.iconst 2, 1) := by decide +kernel
theorem dL_law_607 : decode cL_law 607 = .ok (.iadd, 1) := by decide +kernel
theorem dL_law_608 : decode cL_law 608 = .ok (.iaload, 1) := by decide +kernel
theorem dL_law_609 : decode cL_law 609 = .ok (.invokevirtual 77, 3) := by decide +kernel
theorem dL_law_612 : decode cL_law 612 = .ok (.if_icmp .eq 948, 3) := by decide +kernel
theorem dL_law_615 : decode cL_law 615 = .ok (.iconst 0, 1) := by decide +kernel
theorem dL_law_616 : decode cL_law 616 = .ok (.ireturn, 1) := by decide +kernel
theorem dL_law_617 : decode cL_law 617 = .ok (.aload_n 1, 1) := by decide +kernel
theorem dL_law_618 : decode cL_law 618 = .ok (.aload_n 0, 1) := by decide +kernel
theorem dL_law_619 : decode cL_law 619 = .ok (.iload 4, 2) := by decide +kernel
theorem dL_law_621 : decode cL_law 621 = .ok (.iconst 1, 1) := by decide +kernel
theorem dL_law_622 : decode cL_law 622 = .ok (.iadd, 1) := by decide +kernel
theorem dL_law_623 : decode cL_law 623 = .ok (.iaload, 1) := by decide +kernel
theorem dL_law_624 : decode cL_law 624 = .ok (.aload_n 0, 1) := by decide +kernel
theorem dL_law_625 : decode cL_law 625 = .ok (.iload 4, 2) := by decide +kernel
theorem dL_law_627 : decode cL_law 627 = .ok (.iconst 2, 1) := by decide +kernel
theorem dL_law_628 : decode cL_law 628 = .ok (.iadd, 1) := by decide +kernel
theorem dL_law_629 : decode cL_law 629 = .ok (.iaload, 1) := by decide +kernel
theorem dL_law_630 : decode cL_law 630 = .ok (.invokevirtual 78, 3) := by decide +kernel
theorem dL_law_633 : decode cL_law 633 = .ok (.aload_n 2, 1) := by decide +kernel
theorem dL_law_634 : decode cL_law 634 = .ok (.aload_n 0, 1) := by decide +kernel
theorem dL_law_635 : decode cL_law 635 = .ok (.iload 4, 2) := by decide +kernel
theorem dL_law_637 : decode cL_law 637 = .ok (.iconst 1, 1) := by decide +kernel
theorem dL_law_638 : decode cL_law 638 = .ok (.iadd, 1) := by decide +kernel
theorem dL_law_639 : decode cL_law 639 = .ok (.iaload, 1) := by decide +kernel
theorem dL_law_640 : decode cL_law 640 = .ok (.aload_n 0, 1) := by decide +kernel
theorem dL_law_641 : decode cL_law 641 = .ok (.iload 4, 2) := by decide +kernel
theorem dL_law_643 : decode cL_law 643 = .ok (.iconst 2, 1) := by decide +kernel
theorem dL_law_644 : decode cL_law 644 = .ok (.iadd, 1) := by decide +kernel
theorem dL_law_645 : decode cL_law 645 = .ok (.iaload, 1) := by decide +kernel
theorem dL_law_646 : decode cL_law 646 = .ok (.invokevirtual 81, 3) := by decide +kernel
theorem dL_law_649 : decode cL_law 649 = .ok (.if_icmp .eq 911, 3) := by decide +kernel
theorem dL_law_652 : decode cL_law 652 = .ok (.iconst 0, 1) := by decide +kernel
theorem dL_law_653 : decode cL_law 653 = .ok (.ireturn, 1) := by decide +kernel
theorem dL_law_654 : decode cL_law 654 = .ok (.aload_n 1, 1) := by decide +kernel
theorem dL_law_655 : decode cL_law 655 = .ok (.aload_n 0, 1) := by decide +kernel
theorem dL_law_656 : decode cL_law 656 = .ok (.iload 4, 2) := by decide +kernel
theorem dL_law_658 : decode cL_law 658 = .ok (.iconst 1, 1) := by decide +kernel
theorem dL_law_659 : decode cL_law 659 = .ok (.iadd, 1) := by decide +kernel
theorem dL_law_660 : decode cL_law 660 = .ok (.iaload, 1) := by decide +kernel
theorem dL_law_661 : decode cL_law 661 = .ok (.aload_n 0, 1) := by decide +kernel
theorem dL_law_662 : decode cL_law 662 = .ok (.iload 4, 2) := by decide +kernel
theorem dL_law_664 : decode cL_law 664 = .ok (.iconst 2, 1) := by decide +kernel
theorem dL_law_665 : decode cL_law 665 = .ok (.iadd, 1) := by decide +kernel
theorem dL_law_666 : decode cL_law 666 = .ok (.iaload, 1) := by decide +kernel
theorem dL_law_667 : decode cL_law 667 = .ok (.invokevirtual 82, 3) := by decide +kernel
theorem dL_law_670 : decode cL_law 670 = .ok (.aload_n 2, 1) := by decide +kernel
theorem dL_law_671 : decode cL_law 671 = .ok (.aload_n 0, 1) := by decide +kernel
theorem dL_law_672 : decode cL_law 672 = .ok (.iload 4, 2) := by decide +kernel
theorem dL_law_674 : decode cL_law 674 = .ok (.iconst 1, 1) := by decide +kernel
theorem dL_law_675 : decode cL_law 675 = .ok (.iadd, 1) := by decide +kernel
theorem dL_law_676 : decode cL_law 676 = .ok (.iaload, 1) := by decide +kernel
theorem dL_law_677 : decode cL_law 677 = .ok (.aload_n 0, 1) := by decide +kernel
theorem dL_law_678 : decode cL_law 678 = .ok (.iload 4, 2) := by decide +kernel
theorem dL_law_680 : decode cL_law 680 = .ok (.iconst 2, 1) := by decide +kernel
theorem dL_law_681 : decode cL_law 681 = .ok (.iadd, 1) := by decide +kernel
theorem dL_law_682 : decode cL_law 682 = .ok (.iaload, 1) := by decide +kernel
theorem dL_law_683 : decode cL_law 683 = .ok (.invokevirtual 85, 3) := by decide +kernel
theorem dL_law_686 : decode cL_law 686 = .ok (.if_icmp .eq 874, 3) := by decide +kernel
theorem dL_law_689 : decode cL_law 689 = .ok (.iconst 0, 1) := by decide +kernel
theorem dL_law_690 : decode cL_law 690 = .ok (.ireturn, 1) := by decide +kernel
theorem dL_law_691 : decode cL_law 691 = .ok (.aload_n 1, 1) := by decide +kernel
theorem dL_law_692 : decode cL_law 692 = .ok (.invokevirtual 86, 3) := by decide +kernel
theorem dL_law_695 : decode cL_law 695 = .ok (.aload_n 2, 1) := by decide +kernel
theorem dL_law_696 : decode cL_law 696 = .ok (.invokevirtual 89, 3) := by decide +kernel
theorem dL_law_699 : decode cL_law 699 = .ok (.if_icmp .eq 861, 3) := by decide +kernel
theorem dL_law_702 : decode cL_law 702 = .ok (.iconst 0, 1) := by decide +kernel
theorem dL_law_703 : decode cL_law 703 = .ok (.ireturn, 1) := by decide +kernel
theorem dL_law_704 : decode cL_law 704 = .ok (.aload_n 1, 1) := by decide +kernel
theorem dL_law_705 : decode cL_law 705 = .ok (.invokevirtual 90, 3) := by decide +kernel
theorem dL_law_708 : decode cL_law 708 = .ok (.aload_n 2, 1) := by decide +kernel
theorem dL_law_709 : decode cL_law 709 = .ok (.invokevirtual 93, 3) := by decide +kernel
theorem dL_law_712 : decode cL_law 712 = .ok (.if_icmp .eq 848, 3) := by decide +kernel
theorem dL_law_715 : decode cL_law 715 = .ok (.iconst 0, 1) := by decide +kernel
theorem dL_law_716 : decode cL_law 716 = .ok (.ireturn, 1) := by decide +kernel
theorem dL_law_717 : decode cL_law 717 = .ok (.aload_n 1, 1) := by decide +kernel
theorem dL_law_718 : decode cL_law 718 = .ok (.aload_n 0, 1) := by decide +kernel
theorem dL_law_719 : decode cL_law 719 = .ok (.iload 4, 2) := by decide +kernel
theorem dL_law_721 : decode cL_law 721 = .ok (.iconst 1, 1) := by decide +kernel
theorem dL_law_722 : decode cL_law 722 = .ok (.iadd, 1) := by decide +kernel
theorem dL_law_723 : decode cL_law 723 = .ok (.iaload, 1) := by decide +kernel
theorem dL_law_724 : decode cL_law 724 = .ok (.invokevirtual 94, 3) := by decide +kernel
theorem dL_law_727 : decode cL_law 727 = .ok (.aload_n 2, 1) := by decide +kernel
theorem dL_law_728 : decode cL_law 728 = .ok (.aload_n 0, 1) := by decide +kernel
theorem dL_law_729 : decode cL_law 729 = .ok (.iload 4, 2) := by decide +kernel
theorem dL_law_731 : decode cL_law 731 = .ok (.iconst 1, 1) := by decide +kernel
theorem dL_law_732 : decode cL_law 732 = .ok (.iadd, 1) := by decide +kernel
theorem dL_law_733 : decode cL_law 733 = .ok (.iaload, 1) := by decide +kernel
theorem dL_law_734 : decode cL_law 734 = .ok (.invokevirtual 97, 3) := by decide +kernel
theorem dL_law_737 : decode cL_law 737 = .ok (.if_icmp .eq 823, 3) := by decide +kernel
theorem dL_law_740 : decode cL_law 740 = .ok (.iconst 0, 1) := by decide +kernel
theorem dL_law_741 : decode cL_law 741 = .ok (.ireturn, 1) := by decide +kernel
theorem dL_law_742 : decode cL_law 742 = .ok (.aload_n 1, 1) := by decide +kernel
theorem dL_law_743 : decode cL_law 743 = .ok (.invokevirtual 98, 3) := by decide +kernel
theorem dL_law_746 : decode cL_law 746 = .ok (.aload_n 2, 1) := by decide +kernel
theorem dL_law_747 : decode cL_law 747 = .ok (.invokevirtual 101, 3) := by decide +kernel
theorem dL_law_750 : decode cL_law 750 = .ok (.if_icmp .eq 810, 3) := by decide +kernel
theorem dL_law_753 : decode cL_law 753 = .ok (.iconst 0, 1) := by decide +kernel
theorem dL_law_754 : decode cL_law 754 = .ok (.ireturn, 1) := by decide +kernel
theorem dL_law_755 : decode cL_law 755 = .ok (.aload_n 1, 1) := by decide +kernel
theorem dL_law_756 : decode cL_law 756 = .ok (.aload_n 0, 1) := by decide +kernel
theorem dL_law_757 : decode cL_law 757 = .ok (.iload 4, 2) := by decide +kernel
theorem dL_law_759 : decode cL_law 759 = .ok (.iconst 1, 1) := by decide +kernel
theorem dL_law_760 : decode cL_law 760 = .ok (.iadd, 1) := by decide +kernel
theorem dL_law_761 : decode cL_law 761 = .ok (.iaload, 1) := by decide +kernel
theorem dL_law_762 : decode cL_law 762 = .ok (.invokevirtual 102, 3) := by decide +kernel
theorem dL_law_765 : decode cL_law 765 = .ok (.aload_n 2, 1) := by decide +kernel
theorem dL_law_766 : decode cL_law 766 = .ok (.aload_n 0, 1) := by decide +kernel
theorem dL_law_767 : decode cL_law 767 = .ok (.iload 4, 2) := by decide +kernel
theorem dL_law_769 : decode cL_law 769 = .ok (.iconst 1, 1) := by decide +kernel
theorem dL_law_770 : decode cL_law 770 = .ok (.iadd, 1) := by decide +kernel
theorem dL_law_771 : decode cL_law 771 = .ok (.iaload, 1) := by decide +kernel
theorem dL_law_772 : decode cL_law 772 = .ok (.invokevirtual 105, 3) := by decide +kernel
theorem dL_law_775 : decode cL_law 775 = .ok (.if_icmp .eq 785, 3) := by decide +kernel
theorem dL_law_778 : decode cL_law 778 = .ok (.iconst 0, 1) := by decide +kernel
theorem dL_law_779 : decode cL_law 779 = .ok (.ireturn, 1) := by decide +kernel
theorem dL_law_780 : decode cL_law 780 = .ok (.aload_n 1, 1) := by decide +kernel
theorem dL_law_781 : decode cL_law 781 = .ok (.aload_n 0, 1) := by decide +kernel
theorem dL_law_782 : decode cL_law 782 = .ok (.iload 4, 2) := by decide +kernel
theorem dL_law_784 : decode cL_law 784 = .ok (.iconst 1, 1) := by decide +kernel
theorem dL_law_785 : decode cL_law 785 = .ok (.iadd, 1) := by decide +kernel
theorem dL_law_786 : decode cL_law 786 = .ok (.iaload, 1) := by decide +kernel
theorem dL_law_787 : decode cL_law 787 = .ok (.aload_n 0, 1) := by decide +kernel
theorem dL_law_788 : decode cL_law 788 = .ok (.iload 4, 2) := by decide +kernel
theorem dL_law_790 : decode cL_law 790 = .ok (.iconst 2, 1) := by decide +kernel
theorem dL_law_791 : decode cL_law 791 = .ok (.iadd, 1) := by decide +kernel
theorem dL_law_792 : decode cL_law 792 = .ok (.iaload, 1) := by decide +kernel
theorem dL_law_793 : decode cL_law 793 = .ok (.invokevirtual 106, 3) := by decide +kernel
theorem dL_law_796 : decode cL_law 796 = .ok (.aload_n 2, 1) := by decide +kernel
theorem dL_law_797 : decode cL_law 797 = .ok (.aload_n 0, 1) := by decide +kernel
theorem dL_law_798 : decode cL_law 798 = .ok (.iload 4, 2) := by decide +kernel
theorem dL_law_800 : decode cL_law 800 = .ok (.iconst 1, 1) := by decide +kernel
theorem dL_law_801 : decode cL_law 801 = .ok (.iadd, 1) := by decide +kernel
theorem dL_law_802 : decode cL_law 802 = .ok (.iaload, 1) := by decide +kernel
theorem dL_law_803 : decode cL_law 803 = .ok (.aload_n 0, 1) := by decide +kernel
theorem dL_law_804 : decode cL_law 804 = .ok (.iload 4, 2) := by decide +kernel
theorem dL_law_806 : decode cL_law 806 = .ok (.iconst 2, 1) := by decide +kernel
theorem dL_law_807 : decode cL_law 807 = .ok (.iadd, 1) := by decide +kernel
theorem dL_law_808 : decode cL_law 808 = .ok (.iaload, 1) := by decide +kernel
theorem dL_law_809 : decode cL_law 809 = .ok (.invokevirtual 109, 3) := by decide +kernel
theorem dL_law_812 : decode cL_law 812 = .ok (.if_icmp .eq 748, 3) := by decide +kernel
theorem dL_law_815 : decode cL_law 815 = .ok (.iconst 0, 1) := by decide +kernel
theorem dL_law_816 : decode cL_law 816 = .ok (.ireturn, 1) := by decide +kernel
theorem dL_law_817 : decode cL_law 817 = .ok (.aload_n 1, 1) := by decide +kernel
theorem dL_law_818 : decode cL_law 818 = .ok (.aload_n 0, 1) := by decide +kernel
theorem dL_law_819 : decode cL_law 819 = .ok (.iload 4, 2) := by decide +kernel
theorem dL_law_821 : decode cL_law 821 = .ok (.iconst 1, 1) := by decide +kernel
theorem dL_law_822 : decode cL_law 822 = .ok (.iadd, 1) := by decide +kernel
theorem dL_law_823 : decode cL_law 823 = .ok (.iaload, 1) := by decide +kernel
theorem dL_law_824 : decode cL_law 824 = .ok (.invokevirtual 110, 3) := by decide +kernel
theorem dL_law_827 : decode cL_law 827 = .ok (.aload_n 2, 1) := by decide +kernel
theorem dL_law_828 : decode cL_law 828 = .ok (.aload_n 0, 1) := by decide +kernel
theorem dL_law_829 : decode cL_law 829 = .ok (.iload 4, 2) := by decide +kernel
theorem dL_law_831 : decode cL_law 831 = .ok (.iconst 1, 1) := by decide +kernel
theorem dL_law_832 : decode cL_law 832 = .ok (.iadd, 1) := by decide +kernel
theorem dL_law_833 : decode cL_law 833 = .ok (.iaload, 1) := by decide +kernel
theorem dL_law_834 : decode cL_law 834 = .ok (.invokevirtual 113, 3) := by decide +kernel
theorem dL_law_837 : decode cL_law 837 = .ok (.if_icmp .eq 723, 3) := by decide +kernel
theorem dL_law_840 : decode cL_law 840 = .ok (.iconst 0, 1) := by decide +kernel
theorem dL_law_841 : decode cL_law 841 = .ok (.ireturn, 1) := by decide +kernel
theorem dL_law_842 : decode cL_law 842 = .ok (.aload_n 1, 1) := by decide +kernel
theorem dL_law_843 : decode cL_law 843 = .ok (.aload_n 0, 1) := by decide +kernel
theorem dL_law_844 : decode cL_law 844 = .ok (.iload 4, 2) := by decide +kernel
theorem dL_law_846 : decode cL_law 846 = .ok (.iconst 1, 1) := by decide +kernel
theorem dL_law_847 : decode cL_law 847 = .ok (.iadd, 1) := by decide +kernel
theorem dL_law_848 : decode cL_law 848 = .ok (.iaload, 1) := by decide +kernel
theorem dL_law_849 : decode cL_law 849 = .ok (.invokevirtual 114, 3) := by decide +kernel
theorem dL_law_852 : decode cL_law 852 = .ok (.aload_n 2, 1) := by decide +kernel
theorem dL_law_853 : decode cL_law 853 = .ok (.aload_n 0, 1) := by decide +kernel
theorem dL_law_854 : decode cL_law 854 = .ok (.iload 4, 2) := by decide +kernel
theorem dL_law_856 : decode cL_law 856 = .ok (.iconst 1, 1) := by decide +kernel
theorem dL_law_857 : decode cL_law 857 = .ok (.iadd, 1) := by decide +kernel
theorem dL_law_858 : decode cL_law 858 = .ok (.iaload, 1) := by decide +kernel
theorem dL_law_859 : decode cL_law 859 = .ok (.invokevirtual 117, 3) := by decide +kernel
theorem dL_law_862 : decode cL_law 862 = .ok (.if_icmp .eq 698, 3) := by decide +kernel
theorem dL_law_865 : decode cL_law 865 = .ok (.iconst 0, 1) := by decide +kernel
theorem dL_law_866 : decode cL_law 866 = .ok (.ireturn, 1) := by decide +kernel
theorem dL_law_867 : decode cL_law 867 = .ok (.aload_n 1, 1) := by decide +kernel
theorem dL_law_868 : decode cL_law 868 = .ok (.invokevirtual 118, 3) := by decide +kernel
theorem dL_law_871 : decode cL_law 871 = .ok (.aload_n 2, 1) := by decide +kernel
theorem dL_law_872 : decode cL_law 872 = .ok (.invokevirtual 121, 3) := by decide +kernel
theorem dL_law_875 : decode cL_law 875 = .ok (.if_icmp .eq 685, 3) := by decide +kernel
theorem dL_law_878 : decode cL_law 878 = .ok (.iconst 0, 1) := by decide +kernel
theorem dL_law_879 : decode cL_law 879 = .ok (.ireturn, 1) := by decide +kernel
theorem dL_law_880 : decode cL_law 880 = .ok (.aload_n 1, 1) := by decide +kernel
theorem dL_law_881 : decode cL_law 881 = .ok (.aload_n 0, 1) := by decide +kernel
theorem dL_law_882 : decode cL_law 882 = .ok (.iload 4, 2) := by decide +kernel
theorem dL_law_884 : decode cL_law 884 = .ok (.iconst 1, 1) := by decide +kernel
theorem dL_law_885 : decode cL_law 885 = .ok (.iadd, 1) := by decide +kernel
theorem dL_law_886 : decode cL_law 886 = .ok (.iaload, 1) := by decide +kernel
theorem dL_law_887 : decode cL_law 887 = .ok (.invokevirtual 122, 3) := by decide +kernel
theorem dL_law_890 : decode cL_law 890 = .ok (.aload_n 2, 1) := by decide +kernel
theorem dL_law_891 : decode cL_law 891 = .ok (.aload_n 0, 1) := by decide +kernel
theorem dL_law_892 : decode cL_law 892 = .ok (.iload 4, 2) := by decide +kernel
theorem dL_law_894 : decode cL_law 894 = .ok (.iconst 1, 1) := by decide +kernel
theorem dL_law_895 : decode cL_law 895 = .ok (.iadd, 1) := by decide +kernel
theorem dL_law_896 : decode cL_law 896 = .ok (.iaload, 1) := by decide +kernel
theorem dL_law_897 : decode cL_law 897 = .ok (.invokevirtual 125, 3) := by decide +kernel
theorem dL_law_900 : decode cL_law 900 = .ok (.if_icmp .eq 660, 3) := by decide +kernel
theorem dL_law_903 : decode cL_law 903 = .ok (.iconst 0, 1) := by decide +kernel
theorem dL_law_904 : decode cL_law 904 = .ok (.ireturn, 1) := by decide +kernel
theorem dL_law_905 : decode cL_law 905 = .ok (.aload_n 1, 1) := by decide +kernel
theorem dL_law_906 : decode cL_law 906 = .ok (.aload_n 0, 1) := by decide +kernel
theorem dL_law_907 : decode cL_law 907 = .ok (.iload 4, 2) := by decide +kernel
theorem dL_law_909 : decode cL_law 909 = .ok (.iconst 1, 1) := by decide +kernel
theorem dL_law_910 : decode cL_law 910 = .ok (.iadd, 1) := by decide +kernel
theorem dL_law_911 : decode cL_law 911 = .ok (.iaload, 1) := by decide +kernel
theorem dL_law_912 : decode cL_law 912 = .ok (.aload_n 0, 1) := by decide +kernel
theorem dL_law_913 : decode cL_law 913 = .ok (.iload 4, 2) := by decide +kernel
theorem dL_law_915 : decode cL_law 915 = .ok (.iconst 2, 1) := by decide +kernel
theorem dL_law_916 : decode cL_law 916 = .ok (.iadd, 1) := by decide +kernel
theorem dL_law_917 : decode cL_law 917 = .ok (.iaload, 1) := by decide +kernel
theorem dL_law_918 : decode cL_law 918 = .ok (.invokevirtual 126, 3) := by decide +kernel
theorem dL_law_921 : decode cL_law 921 = .ok (.aload_n 2, 1) := by decide +kernel
theorem dL_law_922 : decode cL_law 922 = .ok (.aload_n 0, 1) := by decide +kernel
theorem dL_law_923 : decode cL_law 923 = .ok (.iload 4, 2) := by decide +kernel
theorem dL_law_925 : decode cL_law 925 = .ok (.iconst 1, 1) := by decide +kernel
theorem dL_law_926 : decode cL_law 926 = .ok (.iadd, 1) := by decide +kernel
theorem dL_law_927 : decode cL_law 927 = .ok (.iaload, 1) := by decide +kernel
theorem dL_law_928 : decode cL_law 928 = .ok (.aload_n 0, 1) := by decide +kernel
theorem dL_law_929 : decode cL_law 929 = .ok (.iload 4, 2) := by decide +kernel
theorem dL_law_931 : decode cL_law 931 = .ok (.iconst 2, 1) := by decide +kernel
theorem dL_law_932 : decode cL_law 932 = .ok (.iadd, 1) := by decide +kernel
theorem dL_law_933 : decode cL_law 933 = .ok (.iaload, 1) := by decide +kernel
theorem dL_law_934 : decode cL_law 934 = .ok (.invokevirtual 129, 3) := by decide +kernel
theorem dL_law_937 : decode cL_law 937 = .ok (.if_icmp .eq 623, 3) := by decide +kernel
theorem dL_law_940 : decode cL_law 940 = .ok (.iconst 0, 1) := by decide +kernel
theorem dL_law_941 : decode cL_law 941 = .ok (.ireturn, 1) := by decide +kernel
theorem dL_law_942 : decode cL_law 942 = .ok (.aload_n 1, 1) := by decide +kernel
theorem dL_law_943 : decode cL_law 943 = .ok (.invokevirtual 130, 3) := by decide +kernel
theorem dL_law_946 : decode cL_law 946 = .ok (.aload_n 2, 1) := by decide +kernel
theorem dL_law_947 : decode cL_law 947 = .ok (.invokevirtual 133, 3) := by decide +kernel
theorem dL_law_950 : decode cL_law 950 = .ok (.if_icmp .eq 610, 3) := by decide +kernel
theorem dL_law_953 : decode cL_law 953 = .ok (.iconst 0, 1) := by decide +kernel
theorem dL_law_954 : decode cL_law 954 = .ok (.ireturn, 1) := by decide +kernel
theorem dL_law_955 : decode cL_law 955 = .ok (.aload_n 1, 1) := by decide +kernel
theorem dL_law_956 : decode cL_law 956 = .ok (.aload_n 0, 1) := by decide +kernel
theorem dL_law_957 : decode cL_law 957 = .ok (.iload 4, 2) := by decide +kernel
theorem dL_law_959 : decode cL_law 959 = .ok (.iconst 1, 1) := by decide +kernel
theorem dL_law_960 : decode cL_law 960 = .ok (.iadd, 1) := by decide +kernel
theorem dL_law_961 : decode cL_law 961 = .ok (.iaload, 1) := by decide +kernel
theorem dL_law_962 : decode cL_law 962 = .ok (.invokevirtual 134, 3) := by decide +kernel
theorem dL_law_965 : decode cL_law 965 = .ok (.aload_n 2, 1) := by decide +kernel
theorem dL_law_966 : decode cL_law 966 = .ok (.aload_n 0, 1) := by decide +kernel
theorem dL_law_967 : decode cL_law 967 = .ok (.iload 4, 2) := by decide +kernel
theorem dL_law_969 : decode cL_law 969 = .ok (.iconst 1, 1) := by decide +kernel
theorem dL_law_970 : decode cL_law 970 = .ok (.iadd, 1) := by decide +kernel
theorem dL_law_971 : decode cL_law 971 = .ok (.iaload, 1) := by decide +kernel
theorem dL_law_972 : decode cL_law 972 = .ok (.invokevirtual 137, 3) := by decide +kernel
theorem dL_law_975 : decode cL_law 975 = .ok (.if_icmp .eq 585, 3) := by decide +kernel
theorem dL_law_978 : decode cL_law 978 = .ok (.iconst 0, 1) := by decide +kernel
theorem dL_law_979 : decode cL_law 979 = .ok (.ireturn, 1) := by decide +kernel
theorem dL_law_980 : decode cL_law 980 = .ok (.aload_n 1, 1) := by decide +kernel
theorem dL_law_981 : decode cL_law 981 = .ok (.invokevirtual 138, 3) := by decide +kernel
theorem dL_law_984 : decode cL_law 984 = .ok (.aload_n 2, 1) := by decide +kernel
theorem dL_law_985 : decode cL_law 985 = .ok (.invokevirtual 141, 3) := by decide +kernel
theorem dL_law_988 : decode cL_law 988 = .ok (.if_icmp .eq 572, 3) := by decide +kernel
theorem dL_law_991 : decode cL_law 991 = .ok (.iconst 0, 1) := by decide +kernel
theorem dL_law_992 : decode cL_law 992 = .ok (.ireturn, 1) := by decide +kernel
theorem dL_law_993 : decode cL_law 993 = .ok (.aload_n 1, 1) := by decide +kernel
theorem dL_law_994 : decode cL_law 994 = .ok (.aload_n 0, 1) := by decide +kernel
theorem dL_law_995 : decode cL_law 995 = .ok (.iload 4, 2) := by decide +kernel
theorem dL_law_997 : decode cL_law 997 = .ok (.iconst 1, 1) := by decide +kernel
theorem dL_law_998 : decode cL_law 998 = .ok (.iadd, 1) := by decide +kernel
theorem dL_law_999 : decode cL_law 999 = .ok (.iaload, 1) := by decide +kernel
theorem dL_law_1000 : decode cL_law 1000 = .ok (.invokevirtual 142, 3) := by decide +kernel
theorem dL_law_1003 : decode cL_law 1003 = .ok (.aload_n 2, 1) := by decide +kernel
theorem dL_law_1004 : decode cL_law 1004 = .ok (.aload_n 0, 1) := by decide +kernel
theorem dL_law_1005 : decode cL_law 1005 = .ok (.iload 4, 2) := by decide +kernel
theorem dL_law_1007 : decode cL_law 1007 = .ok (.iconst 1, 1) := by decide +kernel
theorem dL_law_1008 : decode cL_law 1008 = .ok (.iadd, 1) := by decide +kernel
theorem dL_law_1009 : decode cL_law 1009 = .ok (.iaload, 1) := by decide +kernel
theorem dL_law_1010 : decode cL_law 1010 = .ok (.invokevirtual 145, 3) := by decide +kernel
theorem dL_law_1013 : decode cL_law 1013 = .ok (.if_icmp .eq 547, 3) := by decide +kernel
theorem dL_law_1016 : decode cL_law 1016 = .ok (.iconst 0, 1) := by decide +kernel
theorem dL_law_1017 : decode cL_law 1017 = .ok (.ireturn, 1) := by decide +kernel
theorem dL_law_1018 : decode cL_law 1018 = .ok (.aload_n 1, 1) := by decide +kernel
theorem dL_law_1019 : decode cL_law 1019 = .ok (.invokevirtual 146, 3) := by decide +kernel
theorem dL_law_1022 : decode cL_law 1022 = .ok (.aload_n 2, 1) := by decide +kernel
theorem dL_law_1023 : decode cL_law 1023 = .ok (.invokevirtual 149, 3) := by decide +kernel
theorem dL_law_1026 : decode cL_law 1026 = .ok (.if_icmp .eq 534, 3) := by decide +kernel
theorem dL_law_1029 : decode cL_law 1029 = .ok (.iconst 0, 1) := by decide +kernel
theorem dL_law_1030 : decode cL_law 1030 = .ok (.ireturn, 1) := by decide +kernel
theorem dL_law_1031 : decode cL_law 1031 = .ok (.aload_n 1, 1) := by decide +kernel
theorem dL_law_1032 : decode cL_law 1032 = .ok (.aload_n 0, 1) := by decide +kernel
theorem dL_law_1033 : decode cL_law 1033 = .ok (.iload 4, 2) := by decide +kernel
theorem dL_law_1035 : decode cL_law 1035 = .ok (.iconst 1, 1) := by decide +kernel
theorem dL_law_1036 : decode cL_law 1036 = .ok (.iadd, 1) := by decide +kernel
theorem dL_law_1037 : decode cL_law 1037 = .ok (.iaload, 1) := by decide +kernel
theorem dL_law_1038 : decode cL_law 1038 = .ok (.aload_n 0, 1) := by decide +kernel
theorem dL_law_1039 : decode cL_law 1039 = .ok (.iload 4, 2) := by decide +kernel
theorem dL_law_1041 : decode cL_law 1041 = .ok (.iconst 2, 1) := by decide +kernel
theorem dL_law_1042 : decode cL_law 1042 = .ok (.iadd, 1) := by decide +kernel
theorem dL_law_1043 : decode cL_law 1043 = .ok (.iaload, 1) := by decide +kernel
theorem dL_law_1044 : decode cL_law 1044 = .ok (.invokevirtual 150, 3) := by decide +kernel
theorem dL_law_1047 : decode cL_law 1047 = .ok (.aload_n 2, 1) := by decide +kernel
theorem dL_law_1048 : decode cL_law 1048 = .ok (.aload_n 0, 1) := by decide +kernel
theorem dL_law_1049 : decode cL_law 1049 = .ok (.iload 4, 2) := by decide +kernel
theorem dL_law_1051 : decode cL_law 1051 = .ok (.iconst 1, 1) := by decide +kernel
theorem dL_law_1052 : decode cL_law 1052 = .ok (.iadd, 1) := by decide +kernel
theorem dL_law_1053 : decode cL_law 1053 = .ok (.iaload, 1) := by decide +kernel
theorem dL_law_1054 : decode cL_law 1054 = .ok (.aload_n 0, 1) := by decide +kernel
theorem dL_law_1055 : decode cL_law 1055 = .ok (.iload 4, 2) := by decide +kernel
theorem dL_law_1057 : decode cL_law 1057 = .ok (.iconst 2, 1) := by decide +kernel
theorem dL_law_1058 : decode cL_law 1058 = .ok (.iadd, 1) := by decide +kernel
theorem dL_law_1059 : decode cL_law 1059 = .ok (.iaload, 1) := by decide +kernel
theorem dL_law_1060 : decode cL_law 1060 = .ok (.invokevirtual 153, 3) := by decide +kernel
theorem dL_law_1063 : decode cL_law 1063 = .ok (.if_icmp .eq 497, 3) := by decide +kernel
theorem dL_law_1066 : decode cL_law 1066 = .ok (.iconst 0, 1) := by decide +kernel
theorem dL_law_1067 : decode cL_law 1067 = .ok (.ireturn, 1) := by decide +kernel
theorem dL_law_1068 : decode cL_law 1068 = .ok (.aload_n 1, 1) := by decide +kernel
theorem dL_law_1069 : decode cL_law 1069 = .ok (.invokevirtual 154, 3) := by decide +kernel
theorem dL_law_1072 : decode cL_law 1072 = .ok (.aload_n 2, 1) := by decide +kernel
theorem dL_law_1073 : decode cL_law 1073 = .ok (.invokevirtual 157, 3) := by decide +kernel
theorem dL_law_1076 : decode cL_law 1076 = .ok (.if_icmp .eq 484, 3) := by decide +kernel
theorem dL_law_1079 : decode cL_law 1079 = .ok (.iconst 0, 1) := by decide +kernel
theorem dL_law_1080 : decode cL_law 1080 = .ok (.ireturn, 1) := by decide +kernel
theorem dL_law_1081 : decode cL_law 1081 = .ok (.aload_n 1, 1) := by decide +kernel
theorem dL_law_1082 : decode cL_law 1082 = .ok (.invokevirtual 158, 3) := by decide +kernel
theorem dL_law_1085 : decode cL_law 1085 = .ok (.aload_n 2, 1) := by decide +kernel
theorem dL_law_1086 : decode cL_law 1086 = .ok (.invokevirtual 161, 3) := by decide +kernel
theorem dL_law_1089 : decode cL_law 1089 = .ok (.if_icmp .eq 471, 3) := by decide +kernel
theorem dL_law_1092 : decode cL_law 1092 = .ok (.iconst 0, 1) := by decide +kernel
theorem dL_law_1093 : decode cL_law 1093 = .ok (.ireturn, 1) := by decide +kernel
theorem dL_law_1094 : decode cL_law 1094 = .ok (.aload_n 1, 1) := by decide +kernel
theorem dL_law_1095 : decode cL_law 1095 = .ok (.invokevirtual 162, 3) := by decide +kernel
theorem dL_law_1098 : decode cL_law 1098 = .ok (.aload_n 2, 1) := by decide +kernel
theorem dL_law_1099 : decode cL_law 1099 = .ok (.invokevirtual 165, 3) := by decide +kernel
theorem dL_law_1102 : decode cL_law 1102 = .ok (.if_icmp .eq 458, 3) := by decide +kernel
theorem dL_law_1105 : decode cL_law 1105 = .ok (.iconst 0, 1) := by decide +kernel
theorem dL_law_1106 : decode cL_law 1106 = .ok (.ireturn, 1) := by decide +kernel
theorem dL_law_1107 : decode cL_law 1107 = .ok (.aload_n 1, 1) := by decide +kernel
theorem dL_law_1108 : decode cL_law 1108 = .ok (.invokevirtual 166, 3) := by decide +kernel
theorem dL_law_1111 : decode cL_law 1111 = .ok (.aload_n 2, 1) := by decide +kernel
theorem dL_law_1112 : decode cL_law 1112 = .ok (.invokevirtual 169, 3) := by decide +kernel
theorem dL_law_1115 : decode cL_law 1115 = .ok (.if_icmp .eq 445, 3) := by decide +kernel
theorem dL_law_1118 : decode cL_law 1118 = .ok (.iconst 0, 1) := by decide +kernel
theorem dL_law_1119 : decode cL_law 1119 = .ok (.ireturn, 1) := by decide +kernel
theorem dL_law_1120 : decode cL_law 1120 = .ok (.aload_n 1, 1) := by decide +kernel
theorem dL_law_1121 : decode cL_law 1121 = .ok (.aload_n 0, 1) := by decide +kernel
theorem dL_law_1122 : decode cL_law 1122 = .ok (.iload 4, 2) := by decide +kernel
theorem dL_law_1124 : decode cL_law 1124 = .ok (.iconst 1, 1) := by decide +kernel
theorem dL_law_1125 : decode cL_law 1125 = .ok (.iadd, 1) := by decide +kernel
theorem dL_law_1126 : decode cL_law 1126 = .ok (.iaload, 1) := by decide +kernel
theorem dL_law_1127 : decode cL_law 1127 = .ok (.invokevirtual 170, 3) := by decide +kernel
theorem dL_law_1130 : decode cL_law 1130 = .ok (.aload_n 2, 1) := by decide +kernel
theorem dL_law_1131 : decode cL_law 1131 = .ok (.aload_n 0, 1) := by decide +kernel
theorem dL_law_1132 : decode cL_law 1132 = .ok (.iload 4, 2) := by decide +kernel
theorem dL_law_1134 : decode cL_law 1134 = .ok (.iconst 1, 1) := by decide +kernel
theorem dL_law_1135 : decode cL_law 1135 = .ok (.iadd, 1) := by decide +kernel
theorem dL_law_1136 : decode cL_law 1136 = .ok (.iaload, 1) := by decide +kernel
theorem dL_law_1137 : decode cL_law 1137 = .ok (.invokevirtual 173, 3) := by decide +kernel
theorem dL_law_1140 : decode cL_law 1140 = .ok (.if_icmp .eq 420, 3) := by decide +kernel
theorem dL_law_1143 : decode cL_law 1143 = .ok (.iconst 0, 1) := by decide +kernel
theorem dL_law_1144 : decode cL_law 1144 = .ok (.ireturn, 1) := by decide +kernel
theorem dL_law_1145 : decode cL_law 1145 = .ok (.aload_n 1, 1) := by decide +kernel
theorem dL_law_1146 : decode cL_law 1146 = .ok (.aload_n 0, 1) := by decide +kernel
theorem dL_law_1147 : decode cL_law 1147 = .ok (.iload 4, 2) := by decide +kernel
theorem dL_law_1149 : decode cL_law 1149 = .ok (.iconst 1, 1) := by decide +kernel
theorem dL_law_1150 : decode cL_law 1150 = .ok (.iadd, 1) := by decide +kernel
theorem dL_law_1151 : decode cL_law 1151 = .ok (.iaload, 1) := by decide +kernel
theorem dL_law_1152 : decode cL_law 1152 = .ok (.invokevirtual 174, 3) := by decide +kernel
theorem dL_law_1155 : decode cL_law 1155 = .ok (.aload_n 2, 1) := by decide +kernel
theorem dL_law_1156 : decode cL_law 1156 = .ok (.aload_n 0, 1) := by decide +kernel
theorem dL_law_1157 : decode cL_law 1157 = .ok (.iload 4, 2) := by decide +kernel
theorem dL_law_1159 : decode cL_law 1159 = .ok (.iconst 1, 1) := by decide +kernel
theorem dL_law_1160 : decode cL_law 1160 = .ok (.iadd, 1) := by decide +kernel
theorem dL_law_1161 : decode cL_law 1161 = .ok (.iaload, 1) := by decide +kernel
theorem dL_law_1162 : decode cL_law 1162 = .ok (.invokevirtual 177, 3) := by decide +kernel
theorem dL_law_1165 : decode cL_law 1165 = .ok (.if_icmp .eq 395, 3) := by decide +kernel
theorem dL_law_1168 : decode cL_law 1168 = .ok (.iconst 0, 1) := by decide +kernel
theorem dL_law_1169 : decode cL_law 1169 = .ok (.ireturn, 1) := by decide +kernel
theorem dL_law_1170 : decode cL_law 1170 = .ok (.aload_n 1, 1) := by decide +kernel
theorem dL_law_1171 : decode cL_law 1171 = .ok (.aload_n 0, 1) := by decide +kernel
theorem dL_law_1172 : decode cL_law 1172 = .ok (.iload 4, 2) := by decide +kernel
theorem dL_law_1174 : decode cL_law 1174 = .ok (.iconst 1, 1) := by decide +kernel
theorem dL_law_1175 : decode cL_law 1175 = .ok (.iadd, 1) := by decide +kernel
theorem dL_law_1176 : decode cL_law 1176 = .ok (.iaload, 1) := by decide +kernel
theorem dL_law_1177 : decode cL_law 1177 = .ok (.invokevirtual 178, 3) := by decide +kernel
theorem dL_law_1180 : decode cL_law 1180 = .ok (.aload_n 2, 1) := by decide +kernel
theorem dL_law_1181 : decode cL_law 1181 = .ok (.aload_n 0, 1) := by decide +kernel
theorem dL_law_1182 : decode cL_law 1182 = .ok (.iload 4, 2) := by decide +kernel
theorem dL_law_1184 : decode cL_law 1184 = .ok (.iconst 1, 1) := by decide +kernel
theorem dL_law_1185 : decode cL_law 1185 = .ok (.iadd, 1) := by decide +kernel
theorem dL_law_1186 : decode cL_law 1186 = .ok (.iaload, 1) := by decide +kernel
theorem dL_law_1187 : decode cL_law 1187 = .ok (.invokevirtual 181, 3) := by decide +kernel
theorem dL_law_1190 : decode cL_law 1190 = .ok (.if_icmp .eq 370, 3) := by decide +kernel
theorem dL_law_1193 : decode cL_law 1193 = .ok (.iconst 0, 1) := by decide +kernel
theorem dL_law_1194 : decode cL_law 1194 = .ok (.ireturn, 1) := by decide +kernel
theorem dL_law_1195 : decode cL_law 1195 = .ok (.aload_n 1, 1) := by decide +kernel
theorem dL_law_1196 : decode cL_law 1196 = .ok (.aload_n 0, 1) := by decide +kernel
theorem dL_law_1197 : decode cL_law 1197 = .ok (.iload 4, 2) := by decide +kernel
theorem dL_law_1199 : decode cL_law 1199 = .ok (.iconst 1, 1) := by decide +kernel
theorem dL_law_1200 : decode cL_law 1200 = .ok (.iadd, 1) := by decide +kernel
theorem dL_law_1201 : decode cL_law 1201 = .ok (.iaload, 1) := by decide +kernel
theorem dL_law_1202 : decode cL_law 1202 = .ok (.invokevirtual 182, 3) := by decide +kernel
theorem dL_law_1205 : decode cL_law 1205 = .ok (.aload_n 2, 1) := by decide +kernel
theorem dL_law_1206 : decode cL_law 1206 = .ok (.aload_n 0, 1) := by decide +kernel
theorem dL_law_1207 : decode cL_law 1207 = .ok (.iload 4, 2) := by decide +kernel
theorem dL_law_1209 : decode cL_law 1209 = .ok (.iconst 1, 1) := by decide +kernel
theorem dL_law_1210 : decode cL_law 1210 = .ok (.iadd, 1) := by decide +kernel
theorem dL_law_1211 : decode cL_law 1211 = .ok (.iaload, 1) := by decide +kernel
theorem dL_law_1212 : decode cL_law 1212 = .ok (.invokevirtual 185, 3) := by decide +kernel
theorem dL_law_1215 : decode cL_law 1215 = .ok (.if_icmp .eq 345, 3) := by decide +kernel
theorem dL_law_1218 : decode cL_law 1218 = .ok (.iconst 0, 1) := by decide +kernel
theorem dL_law_1219 : decode cL_law 1219 = .ok (.ireturn, 1) := by decide +kernel
theorem dL_law_1220 : decode cL_law 1220 = .ok (.aload_n 1, 1) := by decide +kernel
theorem dL_law_1221 : decode cL_law 1221 = .ok (.aload_n 0, 1) := by decide +kernel
theorem dL_law_1222 : decode cL_law 1222 = .ok (.iload 4, 2) := by decide +kernel
theorem dL_law_1224 : decode cL_law 1224 = .ok (.iconst 1, 1) := by decide +kernel
theorem dL_law_1225 : decode cL_law 1225 = .ok (.iadd, 1) := by decide +kernel
theorem dL_law_1226 : decode cL_law 1226 = .ok (.iaload, 1) := by decide +kernel
theorem dL_law_1227 : decode cL_law 1227 = .ok (.aload_n 0, 1) := by decide +kernel
theorem dL_law_1228 : decode cL_law 1228 = .ok (.iload 4, 2) := by decide +kernel
theorem dL_law_1230 : decode cL_law 1230 = .ok (.iconst 2, 1) := by decide +kernel
theorem dL_law_1231 : decode cL_law 1231 = .ok (.iadd, 1) := by decide +kernel
theorem dL_law_1232 : decode cL_law 1232 = .ok (.iaload, 1) := by decide +kernel
theorem dL_law_1233 : decode cL_law 1233 = .ok (.invokevirtual 186, 3) := by decide +kernel
theorem dL_law_1236 : decode cL_law 1236 = .ok (.aload_n 2, 1) := by decide +kernel
theorem dL_law_1237 : decode cL_law 1237 = .ok (.aload_n 0, 1) := by decide +kernel
theorem dL_law_1238 : decode cL_law 1238 = .ok (.iload 4, 2) := by decide +kernel
theorem dL_law_1240 : decode cL_law 1240 = .ok (.iconst 1, 1) := by decide +kernel
theorem dL_law_1241 : decode cL_law 1241 = .ok (.iadd, 1) := by decide +kernel
theorem dL_law_1242 : decode cL_law 1242 = .ok (.iaload, 1) := by decide +kernel
theorem dL_law_1243 : decode cL_law 1243 = .ok (.aload_n 0, 1) := by decide +kernel
theorem dL_law_1244 : decode cL_law 1244 = .ok (.iload 4, 2) := by decide +kernel
theorem dL_law_1246 : decode cL_law 1246 = .ok (.iconst 2, 1) := by decide +kernel
theorem dL_law_1247 : decode cL_law 1247 = .ok (.iadd, 1) := by decide +kernel
theorem dL_law_1248 : decode cL_law 1248 = .ok (.iaload, 1) := by decide +kernel
theorem dL_law_1249 : decode cL_law 1249 = .ok (.invokevirtual 189, 3) := by decide +kernel
theorem dL_law_1252 : decode cL_law 1252 = .ok (.if_icmp .eq 308, 3) := by decide +kernel
theorem dL_law_1255 : decode cL_law 1255 = .ok (.iconst 0, 1) := by decide +kernel
theorem dL_law_1256 : decode cL_law 1256 = .ok (.ireturn, 1) := by decide +kernel
theorem dL_law_1257 : decode cL_law 1257 = .ok (.aload_n 1, 1) := by decide +kernel
theorem dL_law_1258 : decode cL_law 1258 = .ok (.aload_n 0, 1) := by decide +kernel
theorem dL_law_1259 : decode cL_law 1259 = .ok (.iload 4, 2) := by decide +kernel
theorem dL_law_1261 : decode cL_law 1261 = .ok (.iconst 1, 1) := by decide +kernel
theorem dL_law_1262 : decode cL_law 1262 = .ok (.iadd, 1) := by decide +kernel
theorem dL_law_1263 : decode cL_law 1263 = .ok (.iaload, 1) := by decide +kernel
theorem dL_law_1264 : decode cL_law 1264 = .ok (.aload_n 0, 1) := by decide +kernel
theorem dL_law_1265 : decode cL_law 1265 = .ok (.iload 4, 2) := by decide +kernel
theorem dL_law_1267 : decode cL_law 1267 = .ok (.iconst 2, 1) := by decide +kernel
theorem dL_law_1268 : decode cL_law 1268 = .ok (.iadd, 1) := by decide +kernel
theorem dL_law_1269 : decode cL_law 1269 = .ok (.iaload, 1) := by decide +kernel
theorem dL_law_1270 : decode cL_law 1270 = .ok (.aload_n 0, 1) := by decide +kernel
theorem dL_law_1271 : decode cL_law 1271 = .ok (.iload 4, 2) := by decide +kernel
theorem dL_law_1273 : decode cL_law 1273 = .ok (.iconst 3, 1) := by decide +kernel
theorem dL_law_1274 : decode cL_law 1274 = .ok (.iadd, 1) := by decide +kernel
theorem dL_law_1275 : decode cL_law 1275 = .ok (.iaload, 1) := by decide +kernel
theorem dL_law_1276 : decode cL_law 1276 = .ok (.invokevirtual 190, 3) := by decide +kernel
theorem dL_law_1279 : decode cL_law 1279 = .ok (.aload_n 2, 1) := by decide +kernel
theorem dL_law_1280 : decode cL_law 1280 = .ok (.aload_n 0, 1) := by decide +kernel
theorem dL_law_1281 : decode cL_law 1281 = .ok (.iload 4, 2) := by decide +kernel
theorem dL_law_1283 : decode cL_law 1283 = .ok (.iconst 1, 1) := by decide +kernel
theorem dL_law_1284 : decode cL_law 1284 = .ok (.iadd, 1) := by decide +kernel
theorem dL_law_1285 : decode cL_law 1285 = .ok (.iaload, 1) := by decide +kernel
theorem dL_law_1286 : decode cL_law 1286 = .ok (.aload_n 0, 1) := by decide +kernel
theorem dL_law_1287 : decode cL_law 1287 = .ok (.iload 4, 2) := by decide +kernel
theorem dL_law_1289 : decode cL_law 1289 = .ok (.iconst 2, 1) := by decide +kernel
theorem dL_law_1290 : decode cL_law 1290 = .ok (.iadd, 1) := by decide +kernel
theorem dL_law_1291 : decode cL_law 1291 = .ok (.iaload, 1) := by decide +kernel
theorem dL_law_1292 : decode cL_law 1292 = .ok (.aload_n 0, 1) := by decide +kernel
theorem dL_law_1293 : decode cL_law 1293 = .ok (.iload 4, 2) := by decide +kernel
theorem dL_law_1295 : decode cL_law 1295 = .ok (.iconst 3, 1) := by decide +kernel
theorem dL_law_1296 : decode cL_law 1296 = .ok (.iadd, 1) := by decide +kernel
theorem dL_law_1297 : decode cL_law 1297 = .ok (.iaload, 1) := by decide +kernel
theorem dL_law_1298 : decode cL_law 1298 = .ok (.invokevirtual 194, 3) := by decide +kernel
theorem dL_law_1301 : decode cL_law 1301 = .ok (.if_icmp .eq 259, 3) := by decide +kernel
theorem dL_law_1304 : decode cL_law 1304 = .ok (.iconst 0, 1) := by decide +kernel
theorem dL_law_1305 : decode cL_law 1305 = .ok (.ireturn, 1) := by decide +kernel
theorem dL_law_1306 : decode cL_law 1306 = .ok (.aload_n 1, 1) := by decide +kernel
theorem dL_law_1307 : decode cL_law 1307 = .ok (.aload_n 0, 1) := by decide +kernel
theorem dL_law_1308 : decode cL_law 1308 = .ok (.iload 4, 2) := by decide +kernel
theorem dL_law_1310 : decode cL_law 1310 = .ok (.iconst 1, 1) := by decide +kernel
theorem dL_law_1311 : decode cL_law 1311 = .ok (.iadd, 1) := by decide +kernel
theorem dL_law_1312 : decode cL_law 1312 = .ok (.iaload, 1) := by decide +kernel
theorem dL_law_1313 : decode cL_law 1313 = .ok (.aload_n 0, 1) := by decide +kernel
theorem dL_law_1314 : decode cL_law 1314 = .ok (.iload 4, 2) := by decide +kernel
theorem dL_law_1316 : decode cL_law 1316 = .ok (.iconst 2, 1) := by decide +kernel
theorem dL_law_1317 : decode cL_law 1317 = .ok (.iadd, 1) := by decide +kernel
theorem dL_law_1318 : decode cL_law 1318 = .ok (.iaload, 1) := by decide +kernel
theorem dL_law_1319 : decode cL_law 1319 = .ok (.invokevirtual 195, 3) := by decide +kernel
theorem dL_law_1322 : decode cL_law 1322 = .ok (.aload_n 2, 1) := by decide +kernel
theorem dL_law_1323 : decode cL_law 1323 = .ok (.aload_n 0, 1) := by decide +kernel
theorem dL_law_1324 : decode cL_law 1324 = .ok (.iload 4, 2) := by decide +kernel
theorem dL_law_1326 : decode cL_law 1326 = .ok (.iconst 1, 1) := by decide +kernel
theorem dL_law_1327 : decode cL_law 1327 = .ok (.iadd, 1) := by decide +kernel
theorem dL_law_1328 : decode cL_law 1328 = .ok (.iaload, 1) := by decide +kernel
theorem dL_law_1329 : decode cL_law 1329 = .ok (.aload_n 0, 1) := by decide +kernel
theorem dL_law_1330 : decode cL_law 1330 = .ok (.iload 4, 2) := by decide +kernel
theorem dL_law_1332 : decode cL_law 1332 = .ok (.iconst 2, 1) := by decide +kernel
theorem dL_law_1333 : decode cL_law 1333 = .ok (.iadd, 1) := by decide +kernel
theorem dL_law_1334 : decode cL_law 1334 = .ok (.iaload, 1) := by decide +kernel
theorem dL_law_1335 : decode cL_law 1335 = .ok (.invokevirtual 198, 3) := by decide +kernel
theorem dL_law_1338 : decode cL_law 1338 = .ok (.if_icmp .eq 222, 3) := by decide +kernel
theorem dL_law_1341 : decode cL_law 1341 = .ok (.iconst 0, 1) := by decide +kernel
theorem dL_law_1342 : decode cL_law 1342 = .ok (.ireturn, 1) := by decide +kernel
theorem dL_law_1343 : decode cL_law 1343 = .ok (.aload_n 1, 1) := by decide +kernel
theorem dL_law_1344 : decode cL_law 1344 = .ok (.aload_n 0, 1) := by decide +kernel
theorem dL_law_1345 : decode cL_law 1345 = .ok (.iload 4, 2) := by decide +kernel
theorem dL_law_1347 : decode cL_law 1347 = .ok (.iconst 1, 1) := by decide +kernel
theorem dL_law_1348 : decode cL_law 1348 = .ok (.iadd, 1) := by decide +kernel
theorem dL_law_1349 : decode cL_law 1349 = .ok (.iaload, 1) := by decide +kernel
theorem dL_law_1350 : decode cL_law 1350 = .ok (.aload_n 0, 1) := by decide +kernel
theorem dL_law_1351 : decode cL_law 1351 = .ok (.iload 4, 2) := by decide +kernel
theorem dL_law_1353 : decode cL_law 1353 = .ok (.iconst 2, 1) := by decide +kernel
theorem dL_law_1354 : decode cL_law 1354 = .ok (.iadd, 1) := by decide +kernel
theorem dL_law_1355 : decode cL_law 1355 = .ok (.iaload, 1) := by decide +kernel
theorem dL_law_1356 : decode cL_law 1356 = .ok (.invokevirtual 199, 3) := by decide +kernel
theorem dL_law_1359 : decode cL_law 1359 = .ok (.aload_n 2, 1) := by decide +kernel
theorem dL_law_1360 : decode cL_law 1360 = .ok (.aload_n 0, 1) := by decide +kernel
theorem dL_law_1361 : decode cL_law 1361 = .ok (.iload 4, 2) := by decide +kernel
theorem dL_law_1363 : decode cL_law 1363 = .ok (.iconst 1, 1) := by decide +kernel
theorem dL_law_1364 : decode cL_law 1364 = .ok (.iadd, 1) := by decide +kernel
theorem dL_law_1365 : decode cL_law 1365 = .ok (.iaload, 1) := by decide +kernel
theorem dL_law_1366 : decode cL_law 1366 = .ok (.aload_n 0, 1) := by decide +kernel
theorem dL_law_1367 : decode cL_law 1367 = .ok (.iload 4, 2) := by decide +kernel
theorem dL_law_1369 : decode cL_law 1369 = .ok (.iconst 2, 1) := by decide +kernel
theorem dL_law_1370 : decode cL_law 1370 = .ok (.iadd, 1) := by decide +kernel
theorem dL_law_1371 : decode cL_law 1371 = .ok (.iaload, 1) := by decide +kernel
theorem dL_law_1372 : decode cL_law 1372 = .ok (.invokevirtual 202, 3) := by decide +kernel
theorem dL_law_1375 : decode cL_law 1375 = .ok (.if_icmp .eq 185, 3) := by decide +kernel
theorem dL_law_1378 : decode cL_law 1378 = .ok (.iconst 0, 1) := by decide +kernel
theorem dL_law_1379 : decode cL_law 1379 = .ok (.ireturn, 1) := by decide +kernel
theorem dL_law_1380 : decode cL_law 1380 = .ok (.aload_n 1, 1) := by decide +kernel
theorem dL_law_1381 : decode cL_law 1381 = .ok (.invokevirtual 203, 3) := by decide +kernel
theorem dL_law_1384 : decode cL_law 1384 = .ok (.aload_n 2, 1) := by decide +kernel
theorem dL_law_1385 : decode cL_law 1385 = .ok (.invokevirtual 206, 3) := by decide +kernel
theorem dL_law_1388 : decode cL_law 1388 = .ok (.if_icmp .eq 172, 3) := by decide +kernel
theorem dL_law_1391 : decode cL_law 1391 = .ok (.iconst 0, 1) := by decide +kernel
theorem dL_law_1392 : decode cL_law 1392 = .ok (.ireturn, 1) := by decide +kernel
theorem dL_law_1393 : decode cL_law 1393 = .ok (.aload_n 1, 1) := by decide +kernel
theorem dL_law_1394 : decode cL_law 1394 = .ok (.aload_n 0, 1) := by decide +kernel
theorem dL_law_1395 : decode cL_law 1395 = .ok (.iload 4, 2) := by decide +kernel
theorem dL_law_1397 : decode cL_law 1397 = .ok (.iconst 1, 1) := by decide +kernel
theorem dL_law_1398 : decode cL_law 1398 = .ok (.iadd, 1) := by decide +kernel
theorem dL_law_1399 : decode cL_law 1399 = .ok (.iaload, 1) := by decide +kernel
theorem dL_law_1400 : decode cL_law 1400 = .ok (.aload_n 0, 1) := by decide +kernel
theorem dL_law_1401 : decode cL_law 1401 = .ok (.iload 4, 2) := by decide +kernel
theorem dL_law_1403 : decode cL_law 1403 = .ok (.iconst 2, 1) := by decide +kernel
theorem dL_law_1404 : decode cL_law 1404 = .ok (.iadd, 1) := by decide +kernel
theorem dL_law_1405 : decode cL_law 1405 = .ok (.iaload, 1) := by decide +kernel
theorem dL_law_1406 : decode cL_law 1406 = .ok (.invokevirtual 207, 3) := by decide +kernel
theorem dL_law_1409 : decode cL_law 1409 = .ok (.aload_n 2, 1) := by decide +kernel
theorem dL_law_1410 : decode cL_law 1410 = .ok (.aload_n 0, 1) := by decide +kernel
theorem dL_law_1411 : decode cL_law 1411 = .ok (.iload 4, 2) := by decide +kernel
theorem dL_law_1413 : decode cL_law 1413 = .ok (.iconst 1, 1) := by decide +kernel
theorem dL_law_1414 : decode cL_law 1414 = .ok (.iadd, 1) := by decide +kernel
theorem dL_law_1415 : decode cL_law 1415 = .ok (.iaload, 1) := by decide +kernel
theorem dL_law_1416 : decode cL_law 1416 = .ok (.aload_n 0, 1) := by decide +kernel
theorem dL_law_1417 : decode cL_law 1417 = .ok (.iload 4, 2) := by decide +kernel
theorem dL_law_1419 : decode cL_law 1419 = .ok (.iconst 2, 1) := by decide +kernel
theorem dL_law_1420 : decode cL_law 1420 = .ok (.iadd, 1) := by decide +kernel
theorem dL_law_1421 : decode cL_law 1421 = .ok (.iaload, 1) := by decide +kernel
theorem dL_law_1422 : decode cL_law 1422 = .ok (.invokevirtual 210, 3) := by decide +kernel
theorem dL_law_1425 : decode cL_law 1425 = .ok (.if_icmp .eq 135, 3) := by decide +kernel
theorem dL_law_1428 : decode cL_law 1428 = .ok (.iconst 0, 1) := by decide +kernel
theorem dL_law_1429 : decode cL_law 1429 = .ok (.ireturn, 1) := by decide +kernel
theorem dL_law_1430 : decode cL_law 1430 = .ok (.aload_n 1, 1) := by decide +kernel
theorem dL_law_1431 : decode cL_law 1431 = .ok (.aload_n 0, 1) := by decide +kernel
theorem dL_law_1432 : decode cL_law 1432 = .ok (.iload 4, 2) := by decide +kernel
theorem dL_law_1434 : decode cL_law 1434 = .ok (.iconst 1, 1) := by decide +kernel
theorem dL_law_1435 : decode cL_law 1435 = .ok (.iadd, 1) := by decide +kernel
theorem dL_law_1436 : decode cL_law 1436 = .ok (.iaload, 1) := by decide +kernel
theorem dL_law_1437 : decode cL_law 1437 = .ok (.invokevirtual 211, 3) := by decide +kernel
theorem dL_law_1440 : decode cL_law 1440 = .ok (.aload_n 2, 1) := by decide +kernel
theorem dL_law_1441 : decode cL_law 1441 = .ok (.aload_n 0, 1) := by decide +kernel
theorem dL_law_1442 : decode cL_law 1442 = .ok (.iload 4, 2) := by decide +kernel
theorem dL_law_1444 : decode cL_law 1444 = .ok (.iconst 1, 1) := by decide +kernel
theorem dL_law_1445 : decode cL_law 1445 = .ok (.iadd, 1) := by decide +kernel
theorem dL_law_1446 : decode cL_law 1446 = .ok (.iaload, 1) := by decide +kernel
theorem dL_law_1447 : decode cL_law 1447 = .ok (.invokevirtual 214, 3) := by decide +kernel
theorem dL_law_1450 : decode cL_law 1450 = .ok (.if_icmp .eq 110, 3) := by decide +kernel
theorem dL_law_1453 : decode cL_law 1453 = .ok (.iconst 0, 1) := by decide +kernel
theorem dL_law_1454 : decode cL_law 1454 = .ok (.ireturn, 1) := by decide +kernel
theorem dL_law_1455 : decode cL_law 1455 = .ok (.aload_n 1, 1) := by decide +kernel
theorem dL_law_1456 : decode cL_law 1456 = .ok (.aload_n 0, 1) := by decide +kernel
theorem dL_law_1457 : decode cL_law 1457 = .ok (.iload 4, 2) := by decide +kernel
theorem dL_law_1459 : decode cL_law 1459 = .ok (.iconst 1, 1) := by decide +kernel
theorem dL_law_1460 : decode cL_law 1460 = .ok (.iadd, 1) := by decide +kernel
theorem dL_law_1461 : decode cL_law 1461 = .ok (.iaload, 1) := by decide +kernel
theorem dL_law_1462 : decode cL_law 1462 = .ok (.invokevirtual 215, 3) := by decide +kernel
theorem dL_law_1465 : decode cL_law 1465 = .ok (.aload_n 2, 1) := by decide +kernel
theorem dL_law_1466 : decode cL_law 1466 = .ok (.aload_n 0, 1) := by decide +kernel
theorem dL_law_1467 : decode cL_law 1467 = .ok (.iload 4, 2) := by decide +kernel
theorem dL_law_1469 : decode cL_law 1469 = .ok (.iconst 1, 1) := by decide +kernel
theorem dL_law_1470 : decode cL_law 1470 = .ok (.iadd, 1) := by decide +kernel
theorem dL_law_1471 : decode cL_law 1471 = .ok (.iaload, 1) := by decide +kernel
theorem dL_law_1472 : decode cL_law 1472 = .ok (.invokevirtual 218, 3) := by decide +kernel
theorem dL_law_1475 : decode cL_law 1475 = .ok (.if_icmp .eq 85, 3) := by decide +kernel
theorem dL_law_1478 : decode cL_law 1478 = .ok (.iconst 0, 1) := by decide +kernel
theorem dL_law_1479 : decode cL_law 1479 = .ok (.ireturn, 1) := by decide +kernel
theorem dL_law_1480 : decode cL_law 1480 = .ok (.aload_n 1, 1) := by decide +kernel
theorem dL_law_1481 : decode cL_law 1481 = .ok (.aload_n 0, 1) := by decide +kernel
theorem dL_law_1482 : decode cL_law 1482 = .ok (.iload 4, 2) := by decide +kernel
theorem dL_law_1484 : decode cL_law 1484 = .ok (.iconst 1, 1) := by decide +kernel
theorem dL_law_1485 : decode cL_law 1485 = .ok (.iadd, 1) := by decide +kernel
theorem dL_law_1486 : decode cL_law 1486 = .ok (.iaload, 1) := by decide +kernel
theorem dL_law_1487 : decode cL_law 1487 = .ok (.invokevirtual 219, 3) := by decide +kernel
theorem dL_law_1490 : decode cL_law 1490 = .ok (.aload_n 2, 1) := by decide +kernel
theorem dL_law_1491 : decode cL_law 1491 = .ok (.aload_n 0, 1) := by decide +kernel
theorem dL_law_1492 : decode cL_law 1492 = .ok (.iload 4, 2) := by decide +kernel
theorem dL_law_1494 : decode cL_law 1494 = .ok (.iconst 1, 1) := by decide +kernel
theorem dL_law_1495 : decode cL_law 1495 = .ok (.iadd, 1) := by decide +kernel
theorem dL_law_1496 : decode cL_law 1496 = .ok (.iaload, 1) := by decide +kernel
theorem dL_law_1497 : decode cL_law 1497 = .ok (.invokevirtual 222, 3) := by decide +kernel
theorem dL_law_1500 : decode cL_law 1500 = .ok (.if_icmp .eq 60, 3) := by decide +kernel
theorem dL_law_1503 : decode cL_law 1503 = .ok (.iconst 0, 1) := by decide +kernel
theorem dL_law_1504 : decode cL_law 1504 = .ok (.ireturn, 1) := by decide +kernel
theorem dL_law_1505 : decode cL_law 1505 = .ok (.aload_n 1, 1) := by decide +kernel
theorem dL_law_1506 : decode cL_law 1506 = .ok (.aload_n 0, 1) := by decide +kernel
theorem dL_law_1507 : decode cL_law 1507 = .ok (.iload 4, 2) := by decide +kernel
theorem dL_law_1509 : decode cL_law 1509 = .ok (.iconst 1, 1) := by decide +kernel
theorem dL_law_1510 : decode cL_law 1510 = .ok (.iadd, 1) := by decide +kernel
theorem dL_law_1511 : decode cL_law 1511 = .ok (.iaload, 1) := by decide +kernel
theorem dL_law_1512 : decode cL_law 1512 = .ok (.aload_n 3, 1) := by decide +kernel
theorem dL_law_1513 : decode cL_law 1513 = .ok (.invokestatic 223, 3) := by decide +kernel
theorem dL_law_1516 : decode cL_law 1516 = .ok (.istore 5, 2) := by decide +kernel
theorem dL_law_1518 : decode cL_law 1518 = .ok (.aload_n 2, 1) := by decide +kernel
theorem dL_law_1519 : decode cL_law 1519 = .ok (.aload_n 0, 1) := by decide +kernel
theorem dL_law_1520 : decode cL_law 1520 = .ok (.iload 4, 2) := by decide +kernel
theorem dL_law_1522 : decode cL_law 1522 = .ok (.iconst 1, 1) := by decide +kernel
theorem dL_law_1523 : decode cL_law 1523 = .ok (.iadd, 1) := by decide +kernel
theorem dL_law_1524 : decode cL_law 1524 = .ok (.iaload, 1) := by decide +kernel
theorem dL_law_1525 : decode cL_law 1525 = .ok (.invokevirtual 226, 3) := by decide +kernel
theorem dL_law_1528 : decode cL_law 1528 = .ok (.lstore 6, 2) := by decide +kernel
theorem dL_law_1530 : decode cL_law 1530 = .ok (.aload_n 2, 1) := by decide +kernel
theorem dL_law_1531 : decode cL_law 1531 = .ok (.invokevirtual 55, 3) := by decide +kernel
theorem dL_law_1534 : decode cL_law 1534 = .ok (.iload 5, 2) := by decide +kernel
theorem dL_law_1536 : decode cL_law 1536 = .ok (.if_icmp .eq 5, 3) := by decide +kernel
theorem dL_law_1539 : decode cL_law 1539 = .ok (.iconst 0, 1) := by decide +kernel
theorem dL_law_1540 : decode cL_law 1540 = .ok (.ireturn, 1) := by decide +kernel
theorem dL_law_1541 : decode cL_law 1541 = .ok (.iload 5, 2) := by decide +kernel
theorem dL_law_1543 : decode cL_law 1543 = .ok (.ifCond .ne 14, 3) := by decide +kernel
theorem dL_law_1546 : decode cL_law 1546 = .ok (.aload_n 3, 1) := by decide +kernel
theorem dL_law_1547 : decode cL_law 1547 = .ok (.iconst 0, 1) := by decide +kernel
theorem dL_law_1548 : decode cL_law 1548 = .ok (.laload, 1) := by decide +kernel
theorem dL_law_1549 : decode cL_law 1549 = .ok (.lload 6, 2) := by decide +kernel
theorem dL_law_1551 : decode cL_law 1551 = .ok (.lcmp, 1) := by decide +kernel
theorem dL_law_1552 : decode cL_law 1552 = .ok (.ifCond .eq 5, 3) := by decide +kernel
theorem dL_law_1555 : decode cL_law 1555 = .ok (.iconst 0, 1) := by decide +kernel
theorem dL_law_1556 : decode cL_law 1556 = .ok (.ireturn, 1) := by decide +kernel
theorem dL_law_1557 : decode cL_law 1557 = .ok (.goto 3, 3) := by decide +kernel
theorem dL_law_1560 : decode cL_law 1560 = .ok (.iinc 4 5, 3) := by decide +kernel
theorem dL_law_1563 : decode cL_law 1563 = .ok (.goto (-1540), 3) := by decide +kernel
theorem dL_law_1566 : decode cL_law 1566 = .ok (.iconst 1, 1) := by decide +kernel
theorem dL_law_1567 : decode cL_law 1567 = .ok (.ireturn, 1) := by decide +kernel
