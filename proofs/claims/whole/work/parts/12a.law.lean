/-! THE LAW: the script's rows, a case of the switch each -/
section ROWSL
variable {ρ : Type} {X : wX} {y : MethodName} {cc : ByteArray} {mL : Nat} {ret : Option FieldType} {rm : Room} {Z : ρ → (State → Prop) → Prop} {k kt kf : Option ρ} {N : Nat} {h : Hp} {r : Rp} {cl sl pc pc' tgt cl' sl' b Ls : Nat} {L L' : List (Nat × Value)} {st rest : List Value} {off : Int} {sc : Nat → Int32}
/-- the script stands at b -/
def scr (X : wX) (b Ls : Nat) (sc : Nat → Int32) : Prop := va_X b Ls sc (xs X) (xs X).heap ∧ b < (xs X).heap.size ∧ xB X = (xs X).heap.size
theorem wG_sld (C : Cx X y cc mL ret rm) (D : scr X b Ls sc) {i : Int32} (hd : dcd cc pc .iaload 1 pc') (g : wG X mL Z k N h r cl sl pc' L (.int (sc (ix i)) :: st)) : wG X mL Z (if inB i Ls then k else none) N h r cl sl pc L (.int i :: .ref b :: st) := by
  obtain ⟨hd, rfl⟩ := hd
  intro z hz Q hQ H locs ls w S hl
  by_cases hin : inB i Ls
  · rw [if_pos hin] at hz
    exact va_sld C.1 C.2.1 D.1 D.2.1 (by show ¬ xB X ≤ b; rw [D.2.2]; exact Nat.not_le.mpr D.2.1) S hin.vp hd (g z hz Q hQ H locs ls w S hl)
  · rw [if_neg hin] at hz; cases hz
theorem wG_slen (C : Cx X y cc mL ret rm) (D : scr X b Ls sc) (hd : dcd cc pc .arraylength 1 pc') (g : wG X mL Z k N h r cl sl pc' L (.int (Int32.ofNat Ls) :: st)) : wG X mL Z k N h r cl sl pc L (.ref b :: st) := by
  obtain ⟨hd, rfl⟩ := hd
  intro z hz Q hQ H locs ls w S hl
  exact va_slen C.1 C.2.1 D.1 D.2.1 (by show ¬ xB X ≤ b; rw [D.2.2]; exact Nat.not_le.mpr D.2.1) S hd (g z hz Q hQ H locs ls w S hl)
theorem gQ_wide {Q : State → Prop} {cl2 sl2 : Nat} (h1 : cl ≤ cl2) (h2 : sl ≤ sl2) (g : gQ X mL Q N h r cl2 sl2 pc L st) : gQ X mL Q N h r cl sl pc L st := fun H locs ls w S hv => W.widen h1 h2 (g H locs ls w S hv)
theorem wG_aload_r (C : Cx X y cc mL ret rm) {i : Fin 4} {x : Nat} (hd : dcd cc pc (.aload_n i) 1 pc') (p : Nat) (hp : L[p]? = some ((i : Nat), .ref x)) (g : wG X mL Z k N h r cl sl pc' L (.ref x :: st)) : wG X mL Z k N h r cl sl pc L st := wG_aload_n C hd p hp g
end ROWSL
theorem vw_L_15 : vW RL 15 11 yX11_write cX11_write 4 (some .int) 2 := ⟨⟨_, rfl, by decide, rfl⟩, m_423, m_424, m_425, m_40, m_426, ⟨by decide +kernel, by decide +kernel, by decide +kernel⟩⟩
theorem vw_L_19 : vW RL 19 8 yX12_write cX12_write 5 (some .int) 2 := ⟨⟨_, rfl, by decide, rfl⟩, m_1146, m_1147, m_1148, m_52, m_1149, ⟨by decide +kernel, by decide +kernel, by decide +kernel⟩⟩
theorem vw_L_20 : vW RL 20 11 yX11_wipe cX11_wipe 2 (some .int) 0 := ⟨⟨_, rfl, by decide, rfl⟩, m_431, m_432, m_433, m_40, m_434, ⟨by decide +kernel, by decide +kernel, by decide +kernel⟩⟩
theorem vw_L_24 : vW RL 24 8 yX12_wipe cX12_wipe 2 (some .int) 0 := ⟨⟨_, rfl, by decide, rfl⟩, m_1154, m_1155, m_1156, m_52, m_1157, ⟨by decide +kernel, by decide +kernel, by decide +kernel⟩⟩
theorem vw_L_25 : vW RL 25 11 yX11_fault cX11_fault 1 (some .int) 0 := ⟨⟨_, rfl, by decide, rfl⟩, m_435, m_436, m_437, m_40, m_438, ⟨by decide +kernel, by decide +kernel, by decide +kernel⟩⟩
theorem vw_L_28 : vW RL 28 8 yX12_fault cX12_fault 1 (some .int) 0 := ⟨⟨_, rfl, by decide, rfl⟩, m_1158, m_1159, m_1160, m_52, m_1161, ⟨by decide +kernel, by decide +kernel, by decide +kernel⟩⟩
theorem vw_L_29 : vW RL 29 11 yX11_form cX11_form 2 (some .int) 0 := ⟨⟨_, rfl, by decide, rfl⟩, m_446, m_447, m_448, m_40, m_449, ⟨by decide +kernel, by decide +kernel, by decide +kernel⟩⟩
theorem vw_L_32 : vW RL 32 8 yX12_form cX12_form 2 (some .int) 0 := ⟨⟨_, rfl, by decide, rfl⟩, m_1169, m_1170, m_1171, m_52, m_1172, ⟨by decide +kernel, by decide +kernel, by decide +kernel⟩⟩
theorem vw_L_33 : vW RL 33 11 yX11_place cX11_place 3 (some .int) 2 := ⟨⟨_, rfl, by decide, rfl⟩, m_460, m_461, m_462, m_40, m_463, ⟨by decide +kernel, by decide +kernel, by decide +kernel⟩⟩
theorem vw_L_37 : vW RL 37 8 yX12_place cX12_place 3 (some .int) 2 := ⟨⟨_, rfl, by decide, rfl⟩, m_1177, m_1178, m_1179, m_52, m_1180, ⟨by decide +kernel, by decide +kernel, by decide +kernel⟩⟩
theorem vw_L_38 : vW RL 38 11 yX11_cut cX11_cut 5 (some .int) 3 := ⟨⟨_, rfl, by decide, rfl⟩, m_469, m_470, m_471, m_40, m_472, ⟨by decide +kernel, by decide +kernel, by decide +kernel⟩⟩
theorem vw_L_42 : vW RL 42 8 yX12_cut cX12_cut 4 (some .int) 3 := ⟨⟨_, rfl, by decide, rfl⟩, m_1181, m_1182, m_1183, m_52, m_1184, ⟨by decide +kernel, by decide +kernel, by decide +kernel⟩⟩
theorem vw_L_43 : vW RL 43 11 yX11_about cX11_about 4 (some .int) 2 := ⟨⟨_, rfl, by decide, rfl⟩, m_497, m_498, m_499, m_40, m_500, ⟨by decide +kernel, by decide +kernel, by decide +kernel⟩⟩
theorem vw_L_46 : vW RL 46 8 yX12_about cX12_about 3 (some .int) 2 := ⟨⟨_, rfl, by decide, rfl⟩, m_1209, m_1210, m_1211, m_52, m_1212, ⟨by decide +kernel, by decide +kernel, by decide +kernel⟩⟩
theorem vw_L_47 : vW RL 47 11 yX11_weighs cX11_weighs 2 (some .int) 1 := ⟨⟨_, rfl, by decide, rfl⟩, m_534, m_535, m_536, m_40, m_537, ⟨by decide +kernel, by decide +kernel, by decide +kernel⟩⟩
theorem vw_L_51 : vW RL 51 8 yX12_weighs cX12_weighs 2 (some .int) 1 := ⟨⟨_, rfl, by decide, rfl⟩, m_1233, m_1234, m_1235, m_52, m_1236, ⟨by decide +kernel, by decide +kernel, by decide +kernel⟩⟩
theorem vw_L_52 : vW RL 52 11 yX11_pass cX11_pass 2 (some .int) 1 := ⟨⟨_, rfl, by decide, rfl⟩, m_544, m_545, m_546, m_40, m_547, ⟨by decide +kernel, by decide +kernel, by decide +kernel⟩⟩
theorem vw_L_55 : vW RL 55 8 yX12_pass cX12_pass 5 (some .int) 1 := ⟨⟨_, rfl, by decide, rfl⟩, m_1244, m_1245, m_1246, m_52, m_1247, ⟨by decide +kernel, by decide +kernel, by decide +kernel⟩⟩
theorem vw_L_56 : vW RL 56 11 yX11_wrap cX11_wrap 4 (some .int) 2 := ⟨⟨_, rfl, by decide, rfl⟩, m_558, m_559, m_560, m_40, m_561, ⟨by decide +kernel, by decide +kernel, by decide +kernel⟩⟩
theorem vw_L_59 : vW RL 59 8 yX12_wrap cX12_wrap 4 (some .int) 2 := ⟨⟨_, rfl, by decide, rfl⟩, m_1249, m_1250, m_1251, m_52, m_1252, ⟨by decide +kernel, by decide +kernel, by decide +kernel⟩⟩
theorem vw_L_60 : vW RL 60 11 yX11_trim cX11_trim 3 (some .int) 1 := ⟨⟨_, rfl, by decide, rfl⟩, m_563, m_564, m_565, m_40, m_566, ⟨by decide +kernel, by decide +kernel, by decide +kernel⟩⟩
theorem vw_L_63 : vW RL 63 8 yX12_trim cX12_trim 4 (some .int) 1 := ⟨⟨_, rfl, by decide, rfl⟩, m_1254, m_1255, m_1256, m_52, m_1257, ⟨by decide +kernel, by decide +kernel, by decide +kernel⟩⟩
theorem vw_L_64 : vW RL 64 11 yX11_sell cX11_sell 3 (some .int) 2 := ⟨⟨_, rfl, by decide, rfl⟩, m_572, m_573, m_574, m_40, m_575, ⟨by decide +kernel, by decide +kernel, by decide +kernel⟩⟩
theorem vw_L_68 : vW RL 68 8 yX12_sell cX12_sell 3 (some .int) 2 := ⟨⟨_, rfl, by decide, rfl⟩, m_1258, m_1259, m_1260, m_52, m_1261, ⟨by decide +kernel, by decide +kernel, by decide +kernel⟩⟩
theorem vw_L_69 : vW RL 69 11 yX11_serves cX11_serves 5 (some .int) 4 := ⟨⟨_, rfl, by decide, rfl⟩, m_576, m_577, m_578, m_40, m_579, ⟨by decide +kernel, by decide +kernel, by decide +kernel⟩⟩
theorem vw_L_73 : vW RL 73 8 yX12_serves cX12_serves 5 (some .int) 4 := ⟨⟨_, rfl, by decide, rfl⟩, m_1262, m_1263, m_1264, m_52, m_1265, ⟨by decide +kernel, by decide +kernel, by decide +kernel⟩⟩
theorem vw_L_74 : vW RL 74 11 yX11_stands cX11_stands 4 (some .int) 3 := ⟨⟨_, rfl, by decide, rfl⟩, m_609, m_610, m_611, m_40, m_612, ⟨by decide +kernel, by decide +kernel, by decide +kernel⟩⟩
theorem vw_L_78 : vW RL 78 8 yX12_stands cX12_stands 4 (some .int) 3 := ⟨⟨_, rfl, by decide, rfl⟩, m_1276, m_1277, m_1278, m_52, m_1279, ⟨by decide +kernel, by decide +kernel, by decide +kernel⟩⟩
theorem vw_L_79 : vW RL 79 11 yX11_next cX11_next 5 (some .int) 3 := ⟨⟨_, rfl, by decide, rfl⟩, m_619, m_620, m_621, m_40, m_622, ⟨by decide +kernel, by decide +kernel, by decide +kernel⟩⟩
theorem vw_L_82 : vW RL 82 8 yX12_next cX12_next 4 (some .int) 3 := ⟨⟨_, rfl, by decide, rfl⟩, m_1284, m_1285, m_1286, m_52, m_1287, ⟨by decide +kernel, by decide +kernel, by decide +kernel⟩⟩
theorem vw_L_83 : vW RL 83 11 yX11_serve cX11_serve 6 (some .int) 3 := ⟨⟨_, rfl, by decide, rfl⟩, m_650, m_651, m_652, m_40, m_653, ⟨by decide +kernel, by decide +kernel, by decide +kernel⟩⟩
theorem vw_L_86 : vW RL 86 8 yX12_serve cX12_serve 5 (some .int) 3 := ⟨⟨_, rfl, by decide, rfl⟩, m_1301, m_1302, m_1303, m_52, m_1304, ⟨by decide +kernel, by decide +kernel, by decide +kernel⟩⟩
theorem vw_L_87 : vW RL 87 11 yX11_two cX11_two 6 (some .int) 5 := ⟨⟨_, rfl, by decide, rfl⟩, m_660, m_661, m_662, m_40, m_663, ⟨by decide +kernel, by decide +kernel, by decide +kernel⟩⟩
theorem vw_L_91 : vW RL 91 8 yX12_two cX12_two 6 (some .int) 5 := ⟨⟨_, rfl, by decide, rfl⟩, m_1309, m_1310, m_1311, m_52, m_1312, ⟨by decide +kernel, by decide +kernel, by decide +kernel⟩⟩
theorem vw_L_92 : vW RL 92 11 yX11_twoFirst cX11_twoFirst 6 (some .int) 5 := ⟨⟨_, rfl, by decide, rfl⟩, m_689, m_690, m_691, m_40, m_692, ⟨by decide +kernel, by decide +kernel, by decide +kernel⟩⟩
theorem vw_L_95 : vW RL 95 8 yX12_twoFirst cX12_twoFirst 6 (some .int) 5 := ⟨⟨_, rfl, by decide, rfl⟩, m_1334, m_1335, m_1336, m_52, m_1337, ⟨by decide +kernel, by decide +kernel, by decide +kernel⟩⟩
theorem vw_L_96 : vW RL 96 11 yX11_order cX11_order 4 (some .int) 3 := ⟨⟨_, rfl, by decide, rfl⟩, m_693, m_694, m_695, m_40, m_696, ⟨by decide +kernel, by decide +kernel, by decide +kernel⟩⟩
theorem vw_L_99 : vW RL 99 8 yX12_order cX12_order 4 (some .int) 3 := ⟨⟨_, rfl, by decide, rfl⟩, m_1338, m_1339, m_1340, m_52, m_1341, ⟨by decide +kernel, by decide +kernel, by decide +kernel⟩⟩
theorem vw_L_100 : vW RL 100 11 yX11_unorder cX11_unorder 2 (some .int) 0 := ⟨⟨_, rfl, by decide, rfl⟩, m_701, m_702, m_703, m_40, m_704, ⟨by decide +kernel, by decide +kernel, by decide +kernel⟩⟩
theorem vw_L_103 : vW RL 103 8 yX12_unorder cX12_unorder 2 (some .int) 0 := ⟨⟨_, rfl, by decide, rfl⟩, m_1342, m_1343, m_1344, m_52, m_1345, ⟨by decide +kernel, by decide +kernel, by decide +kernel⟩⟩
theorem vw_L_104 : vW RL 104 11 yX11_whole cX11_whole 2 (some .int) 0 := ⟨⟨_, rfl, by decide, rfl⟩, m_709, m_710, m_711, m_40, m_712, ⟨by decide +kernel, by decide +kernel, by decide +kernel⟩⟩
theorem vw_L_107 : vW RL 107 8 yX12_whole cX12_whole 2 (some .int) 0 := ⟨⟨_, rfl, by decide, rfl⟩, m_1346, m_1347, m_1348, m_52, m_1349, ⟨by decide +kernel, by decide +kernel, by decide +kernel⟩⟩
theorem vw_L_108 : vW RL 108 11 yX11_first cX11_first 1 (some .int) 0 := ⟨⟨_, rfl, by decide, rfl⟩, m_810, m_811, m_812, m_40, m_813, ⟨by decide +kernel, by decide +kernel, by decide +kernel⟩⟩
theorem vw_L_111 : vW RL 111 8 yX12_first cX12_first 2 (some .int) 0 := ⟨⟨_, rfl, by decide, rfl⟩, m_1373, m_1374, m_1375, m_52, m_1376, ⟨by decide +kernel, by decide +kernel, by decide +kernel⟩⟩
theorem vw_L_112 : vW RL 112 11 yX11_fair cX11_fair 3 (some .int) 1 := ⟨⟨_, rfl, by decide, rfl⟩, m_822, m_823, m_824, m_40, m_825, ⟨by decide +kernel, by decide +kernel, by decide +kernel⟩⟩
theorem vw_L_115 : vW RL 115 8 yX12_fair cX12_fair 11 (some .int) 1 := ⟨⟨_, rfl, by decide, rfl⟩, m_1377, m_1378, m_1379, m_52, m_1380, ⟨by decide +kernel, by decide +kernel, by decide +kernel⟩⟩
theorem vw_L_116 : vW RL 116 11 yX11_left cX11_left 6 (some .int) 1 := ⟨⟨_, rfl, by decide, rfl⟩, m_836, m_837, m_838, m_40, m_839, ⟨by decide +kernel, by decide +kernel, by decide +kernel⟩⟩
theorem vw_L_119 : vW RL 119 8 yX12_left cX12_left 3 (some .int) 1 := ⟨⟨_, rfl, by decide, rfl⟩, m_1392, m_1393, m_1394, m_52, m_1395, ⟨by decide +kernel, by decide +kernel, by decide +kernel⟩⟩
theorem vw_L_120 : vW RL 120 11 yX11_read cX11_read 2 (some .int) 0 := ⟨⟨_, rfl, by decide, rfl⟩, m_848, m_849, m_850, m_40, m_851, ⟨by decide +kernel, by decide +kernel, by decide +kernel⟩⟩
theorem vw_L_123 : vW RL 123 8 yX12_read cX12_read 8 (some .int) 0 := ⟨⟨_, rfl, by decide, rfl⟩, m_1400, m_1401, m_1402, m_52, m_1403, ⟨by decide +kernel, by decide +kernel, by decide +kernel⟩⟩
theorem vw_L_124 : vW RL 124 11 yX11_unleft cX11_unleft 2 (some .int) 0 := ⟨⟨_, rfl, by decide, rfl⟩, m_862, m_863, m_864, m_40, m_865, ⟨by decide +kernel, by decide +kernel, by decide +kernel⟩⟩
theorem vw_L_127 : vW RL 127 8 yX12_unleft cX12_unleft 2 (some .int) 0 := ⟨⟨_, rfl, by decide, rfl⟩, m_1404, m_1405, m_1406, m_52, m_1407, ⟨by decide +kernel, by decide +kernel, by decide +kernel⟩⟩
theorem vw_L_128 : vW RL 128 11 yX11_ripens cX11_ripens 4 (some .int) 2 := ⟨⟨_, rfl, by decide, rfl⟩, m_866, m_867, m_868, m_40, m_869, ⟨by decide +kernel, by decide +kernel, by decide +kernel⟩⟩
theorem vw_L_131 : vW RL 131 8 yX12_ripens cX12_ripens 4 (some .int) 2 := ⟨⟨_, rfl, by decide, rfl⟩, m_1408, m_1409, m_1410, m_52, m_1411, ⟨by decide +kernel, by decide +kernel, by decide +kernel⟩⟩
theorem vw_L_132 : vW RL 132 11 yX11_ripe cX11_ripe 9 (some .long) 3 := ⟨⟨_, rfl, by decide, rfl⟩, m_870, m_871, m_872, m_40, m_873, ⟨by decide +kernel, by decide +kernel, by decide +kernel⟩⟩
theorem vw_L_136 : vW RL 136 8 yX12_ripe cX12_ripe 6 (some .long) 3 := ⟨⟨_, rfl, by decide, rfl⟩, m_1413, m_1414, m_1415, m_52, m_1416, ⟨by decide +kernel, by decide +kernel, by decide +kernel⟩⟩
theorem vw_L_137 : vW RL 137 11 yX11_ripest cX11_ripest 2 (some .int) 1 := ⟨⟨_, rfl, by decide, rfl⟩, m_900, m_901, m_902, m_40, m_903, ⟨by decide +kernel, by decide +kernel, by decide +kernel⟩⟩
theorem vw_L_140 : vW RL 140 8 yX12_ripest cX12_ripest 8 (some .int) 1 := ⟨⟨_, rfl, by decide, rfl⟩, m_1437, m_1438, m_1439, m_52, m_1440, ⟨by decide +kernel, by decide +kernel, by decide +kernel⟩⟩
theorem vw_L_141 : vW RL 141 11 yX11_book cX11_book 2 (some .int) 1 := ⟨⟨_, rfl, by decide, rfl⟩, m_911, m_912, m_913, m_40, m_914, ⟨by decide +kernel, by decide +kernel, by decide +kernel⟩⟩
theorem vw_L_144 : vW RL 144 8 yX12_book cX12_book 2 (some .int) 1 := ⟨⟨_, rfl, by decide, rfl⟩, m_1441, m_1442, m_1443, m_52, m_1444, ⟨by decide +kernel, by decide +kernel, by decide +kernel⟩⟩
theorem vw_L_145 : vW RL 145 11 yX11_over cX11_over 2 (some .int) 1 := ⟨⟨_, rfl, by decide, rfl⟩, m_919, m_920, m_921, m_40, m_922, ⟨by decide +kernel, by decide +kernel, by decide +kernel⟩⟩
theorem vw_L_148 : vW RL 148 8 yX12_over cX12_over 2 (some .int) 1 := ⟨⟨_, rfl, by decide, rfl⟩, m_1445, m_1446, m_1447, m_52, m_1448, ⟨by decide +kernel, by decide +kernel, by decide +kernel⟩⟩
theorem vw_L_149 : vW RL 149 11 yX11_bestOver cX11_bestOver 1 (some .int) 0 := ⟨⟨_, rfl, by decide, rfl⟩, m_927, m_928, m_929, m_40, m_930, ⟨by decide +kernel, by decide +kernel, by decide +kernel⟩⟩
theorem vw_L_152 : vW RL 152 8 yX12_bestOver cX12_bestOver 3 (some .int) 0 := ⟨⟨_, rfl, by decide, rfl⟩, m_1453, m_1454, m_1455, m_52, m_1456, ⟨by decide +kernel, by decide +kernel, by decide +kernel⟩⟩
theorem vw_L_153 : vW RL 153 11 yX11_taste cX11_taste 3 (some .int) 2 := ⟨⟨_, rfl, by decide, rfl⟩, m_936, m_937, m_938, m_40, m_939, ⟨by decide +kernel, by decide +kernel, by decide +kernel⟩⟩
theorem vw_L_156 : vW RL 156 8 yX12_taste cX12_taste 3 (some .int) 2 := ⟨⟨_, rfl, by decide, rfl⟩, m_1457, m_1458, m_1459, m_52, m_1460, ⟨by decide +kernel, by decide +kernel, by decide +kernel⟩⟩
theorem vw_L_157 : vW RL 157 11 yX11_brings cX11_brings 9 (some .long) 2 := ⟨⟨_, rfl, by decide, rfl⟩, m_944, m_945, m_946, m_40, m_947, ⟨by decide +kernel, by decide +kernel, by decide +kernel⟩⟩
theorem vw_L_161 : vW RL 161 8 yX12_brings cX12_brings 5 (some .long) 2 := ⟨⟨_, rfl, by decide, rfl⟩, m_1462, m_1463, m_1464, m_52, m_1465, ⟨by decide +kernel, by decide +kernel, by decide +kernel⟩⟩
theorem vw_L_162 : vW RL 162 11 yX11_bestTaste cX11_bestTaste 1 (some .int) 0 := ⟨⟨_, rfl, by decide, rfl⟩, m_960, m_961, m_962, m_40, m_963, ⟨by decide +kernel, by decide +kernel, by decide +kernel⟩⟩
theorem vw_L_165 : vW RL 165 8 yX12_bestTaste cX12_bestTaste 5 (some .int) 0 := ⟨⟨_, rfl, by decide, rfl⟩, m_1471, m_1472, m_1473, m_52, m_1474, ⟨by decide +kernel, by decide +kernel, by decide +kernel⟩⟩
theorem vw_L_166 : vW RL 166 11 yX11_prices cX11_prices 4 (some .int) 2 := ⟨⟨_, rfl, by decide, rfl⟩, m_969, m_970, m_971, m_40, m_972, ⟨by decide +kernel, by decide +kernel, by decide +kernel⟩⟩
theorem vw_L_169 : vW RL 169 8 yX12_prices cX12_prices 4 (some .int) 2 := ⟨⟨_, rfl, by decide, rfl⟩, m_1475, m_1476, m_1477, m_52, m_1478, ⟨by decide +kernel, by decide +kernel, by decide +kernel⟩⟩
theorem vw_L_170 : vW RL 170 11 yX11_worth cX11_worth 4 (some .int) 0 := ⟨⟨_, rfl, by decide, rfl⟩, m_973, m_974, m_975, m_40, m_976, ⟨by decide +kernel, by decide +kernel, by decide +kernel⟩⟩
theorem vw_L_173 : vW RL 173 8 yX12_worth cX12_worth 3 (some .int) 0 := ⟨⟨_, rfl, by decide, rfl⟩, m_1479, m_1480, m_1481, m_52, m_1482, ⟨by decide +kernel, by decide +kernel, by decide +kernel⟩⟩
theorem vw_L_174 : vW RL 174 11 yX11_keep cX11_keep 2 (some .int) 1 := ⟨⟨_, rfl, by decide, rfl⟩, m_977, m_978, m_979, m_40, m_980, ⟨by decide +kernel, by decide +kernel, by decide +kernel⟩⟩
theorem vw_L_177 : vW RL 177 8 yX12_keep cX12_keep 3 (some .int) 1 := ⟨⟨_, rfl, by decide, rfl⟩, m_1483, m_1484, m_1485, m_52, m_1486, ⟨by decide +kernel, by decide +kernel, by decide +kernel⟩⟩
theorem vw_L_178 : vW RL 178 11 yX11_again cX11_again 2 (some .int) 1 := ⟨⟨_, rfl, by decide, rfl⟩, m_989, m_990, m_991, m_40, m_992, ⟨by decide +kernel, by decide +kernel, by decide +kernel⟩⟩
theorem vw_L_181 : vW RL 181 8 yX12_again cX12_again 3 (some .int) 1 := ⟨⟨_, rfl, by decide, rfl⟩, m_1491, m_1492, m_1493, m_52, m_1494, ⟨by decide +kernel, by decide +kernel, by decide +kernel⟩⟩
theorem vw_L_182 : vW RL 182 11 yX11_count cX11_count 2 (some .int) 1 := ⟨⟨_, rfl, by decide, rfl⟩, m_993, m_994, m_995, m_40, m_996, ⟨by decide +kernel, by decide +kernel, by decide +kernel⟩⟩
theorem vw_L_185 : vW RL 185 8 yX12_count cX12_count 2 (some .int) 1 := ⟨⟨_, rfl, by decide, rfl⟩, m_1495, m_1496, m_1497, m_52, m_1498, ⟨by decide +kernel, by decide +kernel, by decide +kernel⟩⟩
def fl_0 (sc : Nat → Int32) (Ls : Nat) (i : Int32) (q : Qp) (N : Nat) (h : Hp) : Option (Nat × Hp × Qp) :=
  if inB (i + 1) Ls then
  if inB (i + 2) Ls then
  if inB (i + 3) Ls then
  (f_X11_write h (sc (ix (i + 1))) (((sc (ix (i + 2))).toInt64 <<< ((32 : Int32).toInt64 &&& 63)) ||| ((sc (ix (i + 3))).toInt64 &&& 4294967295))).bind fun u_1 =>
  if inB (i + 1) Ls then
  if inB (i + 2) Ls then
  if inB (i + 3) Ls then
  (f_X12_write u_1.2 (sc (ix (i + 1))) (((sc (ix (i + 2))).toInt64 <<< ((32 : Int32).toInt64 &&& 63)) ||| ((sc (ix (i + 3))).toInt64 &&& 4294967295))).bind fun u_2 =>
  (if u_1.1 = u_2.1 then
  some (N, u_2.2, q)
  else
  none) else none else none else none else none else none else none
set_option maxRecDepth 4000 in
theorem wl_0 {X : wX} {b Ls : Nat} {sc : Nat → Int32} (C : Cx X x code 4 (some .boolean) room_1) (D : scr X b Ls sc) {N cl sl : Nat} {q : Qp} (hN : 137 ≤ N) (hcl : cl + 2 ≤ 600000) (hsl : sl + 6 ≤ 7302250) (h : Hp) (i : Int32) : wG X 4 (fun (t : Nat × Hp × Qp) Q => gQ X 4 Q t.1 t.2.1 (rq t.2.2) (cl + 2) (sl + 6) 1450 [(0, .ref b), (1, .ref (xB X + 0)), (2, .ref (xB X + 111)), (3, .int i)] []) (fl_0 sc Ls i q N h) N h (rq q) cl sl 208 [(0, .ref b), (1, .ref (xB X + 0)), (2, .ref (xB X + 111)), (3, .int i)] [] := by
  refine wG_of (fl_0.eq_1 ..) ?_
  refine wG_aload_n C dL_law_208 1 rfl ?_
  refine wG_aload_n C dL_law_209 0 rfl ?_
  refine wG_iload_n C dL_law_210 3 rfl ?_
  refine wG_iconst C dL_law_211 (v := 1) (by decide) ?_
  refine wG_iadd C dL_law_212 ?_
  refine wG_sld C D dL_law_213 ?_
  refine wG_aload_n C dL_law_214 0 rfl ?_
  refine wG_iload_n C dL_law_215 3 rfl ?_
  refine wG_iconst C dL_law_216 (v := 2) (by decide) ?_
  refine wG_iadd C dL_law_217 ?_
  refine wG_sld C D dL_law_218 ?_
  refine wG_i2l C dL_law_219 ?_
  refine wG_bipush C dL_law_220 (v := 32) (by decide) ?_
  refine wG_lshl C dL_law_222 ?_
  refine wG_aload_n C dL_law_223 0 rfl ?_
  refine wG_iload_n C dL_law_224 3 rfl ?_
  refine wG_iconst C dL_law_225 (v := 3) (by decide) ?_
  refine wG_iadd C dL_law_226 ?_
  refine wG_sld C D dL_law_227 ?_
  refine wG_i2l C dL_law_228 ?_
  refine wG_ldc2 C dL_law_229 m_1499 ?_
  refine wG_land C dL_law_232 ?_
  refine wG_lor C dL_law_233 ?_
  refine wG_cV_wi [.int (sc (ix (i + 1))), .long (((sc (ix (i + 2))).toInt64 <<< ((32 : Int32).toInt64 &&& 63)) ||| ((sc (ix (i + 3))).toInt64 &&& 4294967295))] [] C vw_L_15 (c_X11_write (xl X) (xE X) N q hN h (sc (ix (i + 1))) (((sc (ix (i + 2))).toInt64 <<< ((32 : Int32).toInt64 &&& 63)) ||| ((sc (ix (i + 3))).toInt64 &&& 4294967295))) kd_0 (wll hN (by decide)) ⟨by decide, by decide, (show cl + 0 ≤ 600000 by omega), (show sl + 0 ≤ 7302250 by omega)⟩ rfl rfl (Nat.le_of_ble_eq_true rfl) dL_law_234 (cl' := cl) (sl' := sl) rfl rfl (fun u_1 => ?_)
  refine wG_aload_n C dL_law_237 2 rfl ?_
  refine wG_aload_n C dL_law_238 0 rfl ?_
  refine wG_iload_n C dL_law_239 3 rfl ?_
  refine wG_iconst C dL_law_240 (v := 1) (by decide) ?_
  refine wG_iadd C dL_law_241 ?_
  refine wG_sld C D dL_law_242 ?_
  refine wG_aload_n C dL_law_243 0 rfl ?_
  refine wG_iload_n C dL_law_244 3 rfl ?_
  refine wG_iconst C dL_law_245 (v := 2) (by decide) ?_
  refine wG_iadd C dL_law_246 ?_
  refine wG_sld C D dL_law_247 ?_
  refine wG_i2l C dL_law_248 ?_
  refine wG_bipush C dL_law_249 (v := 32) (by decide) ?_
  refine wG_lshl C dL_law_251 ?_
  refine wG_aload_n C dL_law_252 0 rfl ?_
  refine wG_iload_n C dL_law_253 3 rfl ?_
  refine wG_iconst C dL_law_254 (v := 3) (by decide) ?_
  refine wG_iadd C dL_law_255 ?_
  refine wG_sld C D dL_law_256 ?_
  refine wG_i2l C dL_law_257 ?_
  refine wG_ldc2 C dL_law_258 m_1499 ?_
  refine wG_land C dL_law_261 ?_
  refine wG_lor C dL_law_262 ?_
  refine wG_cV_wi [.int (sc (ix (i + 1))), .long (((sc (ix (i + 2))).toInt64 <<< ((32 : Int32).toInt64 &&& 63)) ||| ((sc (ix (i + 3))).toInt64 &&& 4294967295))] [.int u_1.1] C vw_L_19 (c_X12_write (xl X) (xE X) N q hN u_1.2 (sc (ix (i + 1))) (((sc (ix (i + 2))).toInt64 <<< ((32 : Int32).toInt64 &&& 63)) ||| ((sc (ix (i + 3))).toInt64 &&& 4294967295))) kd_111 (wll hN (by decide)) ⟨by decide, by decide, (show cl + 0 ≤ 600000 by omega), (show sl + 0 ≤ 7302250 by omega)⟩ rfl rfl (Nat.le_of_ble_eq_true rfl) dL_law_263 (cl' := cl) (sl' := sl) rfl rfl (fun u_2 => ?_)
  refine wG_icmp_eq C dL_law_266 ?_ ?_
  · exact wG_exit (fun Q e => gQ_wide (by omega) (by omega) (gQ_lv [0, 1, 2, 3] rfl e))
  · exact wG_none
def fl_1 (sc : Nat → Int32) (Ls : Nat) (i : Int32) (q : Qp) (N : Nat) (h : Hp) : Option (Nat × Hp × Qp) :=
  (f_X11_wipe h).bind fun u_1 =>
  (f_X12_wipe u_1.2).bind fun u_2 =>
  (if u_1.1 = u_2.1 then
  some (N, u_2.2, q)
  else
  none)
set_option maxRecDepth 4000 in
theorem wl_1 {X : wX} {b Ls : Nat} {sc : Nat → Int32} (C : Cx X x code 4 (some .boolean) room_1) (D : scr X b Ls sc) {N cl sl : Nat} {q : Qp} (hN : 137 ≤ N) (hcl : cl + 2 ≤ 600000) (hsl : sl + 6 ≤ 7302250) (h : Hp) (i : Int32) : wG X 4 (fun (t : Nat × Hp × Qp) Q => gQ X 4 Q t.1 t.2.1 (rq t.2.2) (cl + 2) (sl + 6) 1450 [(0, .ref b), (1, .ref (xB X + 0)), (2, .ref (xB X + 111)), (3, .int i)] []) (fl_1 sc Ls i q N h) N h (rq q) cl sl 271 [(0, .ref b), (1, .ref (xB X + 0)), (2, .ref (xB X + 111)), (3, .int i)] [] := by
  refine wG_of (fl_1.eq_1 ..) ?_
  refine wG_aload_n C dL_law_271 1 rfl ?_
  refine wG_cV_wi [] [] C vw_L_20 (c_X11_wipe (xl X) (xE X) N q hN h) kd_0 (wll hN (by decide)) ⟨by decide, by decide, (show cl + 0 ≤ 600000 by omega), (show sl + 0 ≤ 7302250 by omega)⟩ rfl rfl (Nat.le_of_ble_eq_true rfl) dL_law_272 (cl' := cl) (sl' := sl) rfl rfl (fun u_1 => ?_)
  refine wG_aload_n C dL_law_275 2 rfl ?_
  refine wG_cV_wi [] [.int u_1.1] C vw_L_24 (c_X12_wipe (xl X) (xE X) N q hN u_1.2) kd_111 (wll hN (by decide)) ⟨by decide, by decide, (show cl + 0 ≤ 600000 by omega), (show sl + 0 ≤ 7302250 by omega)⟩ rfl rfl (Nat.le_of_ble_eq_true rfl) dL_law_276 (cl' := cl) (sl' := sl) rfl rfl (fun u_2 => ?_)
  refine wG_icmp_eq C dL_law_279 ?_ ?_
  · exact wG_exit (fun Q e => gQ_wide (by omega) (by omega) (gQ_lv [0, 1, 2, 3] rfl e))
  · exact wG_none
def fl_2 (sc : Nat → Int32) (Ls : Nat) (i : Int32) (q : Qp) (N : Nat) (h : Hp) : Option (Nat × Hp × Qp) :=
  (f_X11_fault h).bind fun u_1 =>
  (f_X12_fault h).bind fun u_2 =>
  (if u_1 = u_2.1 then
  some (N, u_2.2, q)
  else
  none)
set_option maxRecDepth 4000 in
theorem wl_2 {X : wX} {b Ls : Nat} {sc : Nat → Int32} (C : Cx X x code 4 (some .boolean) room_1) (D : scr X b Ls sc) {N cl sl : Nat} {q : Qp} (hN : 137 ≤ N) (hcl : cl + 2 ≤ 600000) (hsl : sl + 6 ≤ 7302250) (h : Hp) (i : Int32) : wG X 4 (fun (t : Nat × Hp × Qp) Q => gQ X 4 Q t.1 t.2.1 (rq t.2.2) (cl + 2) (sl + 6) 1450 [(0, .ref b), (1, .ref (xB X + 0)), (2, .ref (xB X + 111)), (3, .int i)] []) (fl_2 sc Ls i q N h) N h (rq q) cl sl 284 [(0, .ref b), (1, .ref (xB X + 0)), (2, .ref (xB X + 111)), (3, .int i)] [] := by
  refine wG_of (fl_2.eq_1 ..) ?_
  refine wG_aload_n C dL_law_284 1 rfl ?_
  refine wG_cV_ri [] [] C vw_L_25 (c_X11_fault (xl X) (xE X) N q hN h) kd_0 (wll hN (by decide)) ⟨by decide, by decide, (show cl + 0 ≤ 600000 by omega), (show sl + 0 ≤ 7302250 by omega)⟩ rfl rfl (Nat.le_of_ble_eq_true rfl) dL_law_285 (cl' := cl) (sl' := sl) rfl rfl (fun u_1 => ?_)
  refine wG_aload_n C dL_law_288 2 rfl ?_
  refine wG_cV_wi [] [.int u_1] C vw_L_28 (c_X12_fault (xl X) (xE X) N q hN h) kd_111 (wll hN (by decide)) ⟨by decide, by decide, (show cl + 0 ≤ 600000 by omega), (show sl + 0 ≤ 7302250 by omega)⟩ rfl rfl (Nat.le_of_ble_eq_true rfl) dL_law_289 (cl' := cl) (sl' := sl) rfl rfl (fun u_2 => ?_)
  refine wG_icmp_eq C dL_law_292 ?_ ?_
  · exact wG_exit (fun Q e => gQ_wide (by omega) (by omega) (gQ_lv [0, 1, 2, 3] rfl e))
  · exact wG_none
def fl_3 (sc : Nat → Int32) (Ls : Nat) (i : Int32) (q : Qp) (N : Nat) (h : Hp) : Option (Nat × Hp × Qp) :=
  (f_X11_form h).bind fun u_1 =>
  (f_X12_form u_1.2).bind fun u_2 =>
  (if u_1.1 = u_2.1 then
  some (N, u_2.2, q)
  else
  none)
set_option maxRecDepth 4000 in
theorem wl_3 {X : wX} {b Ls : Nat} {sc : Nat → Int32} (C : Cx X x code 4 (some .boolean) room_1) (D : scr X b Ls sc) {N cl sl : Nat} {q : Qp} (hN : 137 ≤ N) (hcl : cl + 2 ≤ 600000) (hsl : sl + 6 ≤ 7302250) (h : Hp) (i : Int32) : wG X 4 (fun (t : Nat × Hp × Qp) Q => gQ X 4 Q t.1 t.2.1 (rq t.2.2) (cl + 2) (sl + 6) 1450 [(0, .ref b), (1, .ref (xB X + 0)), (2, .ref (xB X + 111)), (3, .int i)] []) (fl_3 sc Ls i q N h) N h (rq q) cl sl 297 [(0, .ref b), (1, .ref (xB X + 0)), (2, .ref (xB X + 111)), (3, .int i)] [] := by
  refine wG_of (fl_3.eq_1 ..) ?_
  refine wG_aload_n C dL_law_297 1 rfl ?_
  refine wG_cV_wi [] [] C vw_L_29 (c_X11_form (xl X) (xE X) N q hN h) kd_0 (wll hN (by decide)) ⟨by decide, by decide, (show cl + 0 ≤ 600000 by omega), (show sl + 0 ≤ 7302250 by omega)⟩ rfl rfl (Nat.le_of_ble_eq_true rfl) dL_law_298 (cl' := cl) (sl' := sl) rfl rfl (fun u_1 => ?_)
  refine wG_aload_n C dL_law_301 2 rfl ?_
  refine wG_cV_wi [] [.int u_1.1] C vw_L_32 (c_X12_form (xl X) (xE X) N q hN u_1.2) kd_111 (wll hN (by decide)) ⟨by decide, by decide, (show cl + 0 ≤ 600000 by omega), (show sl + 0 ≤ 7302250 by omega)⟩ rfl rfl (Nat.le_of_ble_eq_true rfl) dL_law_302 (cl' := cl) (sl' := sl) rfl rfl (fun u_2 => ?_)
  refine wG_icmp_eq C dL_law_305 ?_ ?_
  · exact wG_exit (fun Q e => gQ_wide (by omega) (by omega) (gQ_lv [0, 1, 2, 3] rfl e))
  · exact wG_none
def fl_4 (sc : Nat → Int32) (Ls : Nat) (i : Int32) (q : Qp) (N : Nat) (h : Hp) : Option (Nat × Hp × Qp) :=
  if inB (i + 1) Ls then
  if inB (i + 2) Ls then
  (f_X11_place h (sc (ix (i + 1))) (sc (ix (i + 2)))).bind fun u_1 =>
  if inB (i + 1) Ls then
  if inB (i + 2) Ls then
  (f_X12_place h (sc (ix (i + 1))) (sc (ix (i + 2)))).bind fun u_2 =>
  (if u_1 = u_2.1 then
  some (N, u_2.2, q)
  else
  none) else none else none else none else none
set_option maxRecDepth 4000 in
theorem wl_4 {X : wX} {b Ls : Nat} {sc : Nat → Int32} (C : Cx X x code 4 (some .boolean) room_1) (D : scr X b Ls sc) {N cl sl : Nat} {q : Qp} (hN : 137 ≤ N) (hcl : cl + 2 ≤ 600000) (hsl : sl + 6 ≤ 7302250) (h : Hp) (i : Int32) : wG X 4 (fun (t : Nat × Hp × Qp) Q => gQ X 4 Q t.1 t.2.1 (rq t.2.2) (cl + 2) (sl + 6) 1450 [(0, .ref b), (1, .ref (xB X + 0)), (2, .ref (xB X + 111)), (3, .int i)] []) (fl_4 sc Ls i q N h) N h (rq q) cl sl 310 [(0, .ref b), (1, .ref (xB X + 0)), (2, .ref (xB X + 111)), (3, .int i)] [] := by
  refine wG_of (fl_4.eq_1 ..) ?_
  refine wG_aload_n C dL_law_310 1 rfl ?_
  refine wG_aload_n C dL_law_311 0 rfl ?_
  refine wG_iload_n C dL_law_312 3 rfl ?_
  refine wG_iconst C dL_law_313 (v := 1) (by decide) ?_
  refine wG_iadd C dL_law_314 ?_
  refine wG_sld C D dL_law_315 ?_
  refine wG_aload_n C dL_law_316 0 rfl ?_
  refine wG_iload_n C dL_law_317 3 rfl ?_
  refine wG_iconst C dL_law_318 (v := 2) (by decide) ?_
  refine wG_iadd C dL_law_319 ?_
  refine wG_sld C D dL_law_320 ?_
  refine wG_cV_ri [.int (sc (ix (i + 1))), .int (sc (ix (i + 2)))] [] C vw_L_33 (c_X11_place (xl X) (xE X) N q hN h (sc (ix (i + 1))) (sc (ix (i + 2)))) kd_0 (wll hN (by decide)) ⟨by decide, by decide, (show cl + 0 ≤ 600000 by omega), (show sl + 0 ≤ 7302250 by omega)⟩ rfl rfl (Nat.le_of_ble_eq_true rfl) dL_law_321 (cl' := cl) (sl' := sl) rfl rfl (fun u_1 => ?_)
  refine wG_aload_n C dL_law_324 2 rfl ?_
  refine wG_aload_n C dL_law_325 0 rfl ?_
  refine wG_iload_n C dL_law_326 3 rfl ?_
  refine wG_iconst C dL_law_327 (v := 1) (by decide) ?_
  refine wG_iadd C dL_law_328 ?_
  refine wG_sld C D dL_law_329 ?_
  refine wG_aload_n C dL_law_330 0 rfl ?_
  refine wG_iload_n C dL_law_331 3 rfl ?_
  refine wG_iconst C dL_law_332 (v := 2) (by decide) ?_
  refine wG_iadd C dL_law_333 ?_
  refine wG_sld C D dL_law_334 ?_
  refine wG_cV_wi [.int (sc (ix (i + 1))), .int (sc (ix (i + 2)))] [.int u_1] C vw_L_37 (c_X12_place (xl X) (xE X) N q hN h (sc (ix (i + 1))) (sc (ix (i + 2)))) kd_111 (wll hN (by decide)) ⟨by decide, by decide, (show cl + 0 ≤ 600000 by omega), (show sl + 0 ≤ 7302250 by omega)⟩ rfl rfl (Nat.le_of_ble_eq_true rfl) dL_law_335 (cl' := cl) (sl' := sl) rfl rfl (fun u_2 => ?_)
  refine wG_icmp_eq C dL_law_338 ?_ ?_
  · exact wG_exit (fun Q e => gQ_wide (by omega) (by omega) (gQ_lv [0, 1, 2, 3] rfl e))
  · exact wG_none
def fl_5 (sc : Nat → Int32) (Ls : Nat) (i : Int32) (q : Qp) (N : Nat) (h : Hp) : Option (Nat × Hp × Qp) :=
  if inB (i + 1) Ls then
  if inB (i + 2) Ls then
  ((if (sc (ix (i + 2))) = 0 then
  some 0
  else
  some 1)).bind fun t_1 =>
  if inB (i + 3) Ls then
  (f_X11_cut h (sc (ix (i + 1))) t_1 (sc (ix (i + 3)))).bind fun u_2 =>
  if inB (i + 1) Ls then
  if inB (i + 2) Ls then
  ((if (sc (ix (i + 2))) = 0 then
  some 0
  else
  some 1)).bind fun t_3 =>
  if inB (i + 3) Ls then
  (f_X12_cut u_2.2 (sc (ix (i + 1))) t_3 (sc (ix (i + 3)))).bind fun u_4 =>
  (if u_2.1 = u_4.1 then
  some (N, u_4.2, q)
  else
  none) else none else none else none else none else none else none
set_option maxRecDepth 4000 in
theorem wl_5 {X : wX} {b Ls : Nat} {sc : Nat → Int32} (C : Cx X x code 4 (some .boolean) room_1) (D : scr X b Ls sc) {N cl sl : Nat} {q : Qp} (hN : 137 ≤ N) (hcl : cl + 2 ≤ 600000) (hsl : sl + 6 ≤ 7302250) (h : Hp) (i : Int32) : wG X 4 (fun (t : Nat × Hp × Qp) Q => gQ X 4 Q t.1 t.2.1 (rq t.2.2) (cl + 2) (sl + 6) 1450 [(0, .ref b), (1, .ref (xB X + 0)), (2, .ref (xB X + 111)), (3, .int i)] []) (fl_5 sc Ls i q N h) N h (rq q) cl sl 343 [(0, .ref b), (1, .ref (xB X + 0)), (2, .ref (xB X + 111)), (3, .int i)] [] := by
  refine wG_of (fl_5.eq_1 ..) ?_
  refine wG_aload_n C dL_law_343 1 rfl ?_
  refine wG_aload_n C dL_law_344 0 rfl ?_
  refine wG_iload_n C dL_law_345 3 rfl ?_
  refine wG_iconst C dL_law_346 (v := 1) (by decide) ?_
  refine wG_iadd C dL_law_347 ?_
  refine wG_sld C D dL_law_348 ?_
  refine wG_aload_n C dL_law_349 0 rfl ?_
  refine wG_iload_n C dL_law_350 3 rfl ?_
  refine wG_iconst C dL_law_351 (v := 2) (by decide) ?_
  refine wG_iadd C dL_law_352 ?_
  refine wG_sld C D dL_law_353 ?_
  refine wG_bind (J := (fun (t_1 : Int32) Q => gQ X 4 Q N h (rq q) cl sl 362 [(0, .ref b), (1, .ref (xB X + 0)), (2, .ref (xB X + 111)), (3, .int i)] [.int t_1, .int (sc (ix (i + 1))), .ref (xB X + 0)])) ?_ (fun t_1 => (?_ : wG X 4 _ _ N h (rq q) cl sl 362 [(0, .ref b), (1, .ref (xB X + 0)), (2, .ref (xB X + 111)), (3, .int i)] [.int t_1, .int (sc (ix (i + 1))), .ref (xB X + 0)]))
  · refine wG_if_eq C dL_law_354 ?_ ?_
    · refine wG_iconst C dL_law_361 (v := 0) (by decide) ?_
      exact wG_exit (fun Q e => gQ_lv [0, 1, 2, 3] rfl e)
    · refine wG_iconst C dL_law_357 (v := 1) (by decide) ?_
      refine wG_goto C dL_law_358 ?_
      exact wG_exit (fun Q e => gQ_lv [0, 1, 2, 3] rfl e)
  · refine wG_aload_n C dL_law_362 0 rfl ?_
    refine wG_iload_n C dL_law_363 3 rfl ?_
    refine wG_iconst C dL_law_364 (v := 3) (by decide) ?_
    refine wG_iadd C dL_law_365 ?_
    refine wG_sld C D dL_law_366 ?_
    refine wG_cV_wi [.int (sc (ix (i + 1))), .int t_1, .int (sc (ix (i + 3)))] [] C vw_L_38 (c_X11_cut (xl X) (xE X) N q hN h (sc (ix (i + 1))) t_1 (sc (ix (i + 3)))) kd_0 (wll hN (by decide)) ⟨by decide, by decide, (show cl + 0 ≤ 600000 by omega), (show sl + 0 ≤ 7302250 by omega)⟩ rfl rfl (Nat.le_of_ble_eq_true rfl) dL_law_367 (cl' := cl) (sl' := sl) rfl rfl (fun u_2 => ?_)
    refine wG_aload_n C dL_law_370 2 rfl ?_
    refine wG_aload_n C dL_law_371 0 rfl ?_
    refine wG_iload_n C dL_law_372 3 rfl ?_
    refine wG_iconst C dL_law_373 (v := 1) (by decide) ?_
    refine wG_iadd C dL_law_374 ?_
    refine wG_sld C D dL_law_375 ?_
    refine wG_aload_n C dL_law_376 0 rfl ?_
    refine wG_iload_n C dL_law_377 3 rfl ?_
    refine wG_iconst C dL_law_378 (v := 2) (by decide) ?_
    refine wG_iadd C dL_law_379 ?_
    refine wG_sld C D dL_law_380 ?_
    refine wG_bind (J := (fun (t_3 : Int32) Q => gQ X 4 Q N u_2.2 (rq q) cl sl 389 [(0, .ref b), (1, .ref (xB X + 0)), (2, .ref (xB X + 111)), (3, .int i)] [.int t_3, .int (sc (ix (i + 1))), .ref (xB X + 111), .int u_2.1])) ?_ (fun t_3 => (?_ : wG X 4 _ _ N u_2.2 (rq q) cl sl 389 [(0, .ref b), (1, .ref (xB X + 0)), (2, .ref (xB X + 111)), (3, .int i)] [.int t_3, .int (sc (ix (i + 1))), .ref (xB X + 111), .int u_2.1]))
    · refine wG_if_eq C dL_law_381 ?_ ?_
      · refine wG_iconst C dL_law_388 (v := 0) (by decide) ?_
        exact wG_exit (fun Q e => gQ_lv [0, 1, 2, 3] rfl e)
      · refine wG_iconst C dL_law_384 (v := 1) (by decide) ?_
        refine wG_goto C dL_law_385 ?_
        exact wG_exit (fun Q e => gQ_lv [0, 1, 2, 3] rfl e)
    · refine wG_aload_n C dL_law_389 0 rfl ?_
      refine wG_iload_n C dL_law_390 3 rfl ?_
      refine wG_iconst C dL_law_391 (v := 3) (by decide) ?_
      refine wG_iadd C dL_law_392 ?_
      refine wG_sld C D dL_law_393 ?_
      refine wG_cV_wi [.int (sc (ix (i + 1))), .int t_3, .int (sc (ix (i + 3)))] [.int u_2.1] C vw_L_42 (c_X12_cut (xl X) (xE X) N q hN u_2.2 (sc (ix (i + 1))) t_3 (sc (ix (i + 3)))) kd_111 (wll hN (by decide)) ⟨by decide, by decide, (show cl + 0 ≤ 600000 by omega), (show sl + 0 ≤ 7302250 by omega)⟩ rfl rfl (Nat.le_of_ble_eq_true rfl) dL_law_394 (cl' := cl) (sl' := sl) rfl rfl (fun u_4 => ?_)
      refine wG_icmp_eq C dL_law_397 ?_ ?_
      · exact wG_exit (fun Q e => gQ_wide (by omega) (by omega) (gQ_lv [0, 1, 2, 3] rfl e))
      · exact wG_none
def fl_6 (sc : Nat → Int32) (Ls : Nat) (i : Int32) (q : Qp) (N : Nat) (h : Hp) : Option (Nat × Hp × Qp) :=
  if inB (i + 1) Ls then
  if inB (i + 2) Ls then
  (f_X11_about h (sc (ix (i + 1))) (sc (ix (i + 2)))).bind fun u_1 =>
  if inB (i + 1) Ls then
  if inB (i + 2) Ls then
  (f_X12_about h (sc (ix (i + 1))) (sc (ix (i + 2)))).bind fun u_2 =>
  (if u_1 = u_2.1 then
  some (N, u_2.2, q)
  else
  none) else none else none else none else none
set_option maxRecDepth 4000 in
theorem wl_6 {X : wX} {b Ls : Nat} {sc : Nat → Int32} (C : Cx X x code 4 (some .boolean) room_1) (D : scr X b Ls sc) {N cl sl : Nat} {q : Qp} (hN : 137 ≤ N) (hcl : cl + 2 ≤ 600000) (hsl : sl + 6 ≤ 7302250) (h : Hp) (i : Int32) : wG X 4 (fun (t : Nat × Hp × Qp) Q => gQ X 4 Q t.1 t.2.1 (rq t.2.2) (cl + 2) (sl + 6) 1450 [(0, .ref b), (1, .ref (xB X + 0)), (2, .ref (xB X + 111)), (3, .int i)] []) (fl_6 sc Ls i q N h) N h (rq q) cl sl 402 [(0, .ref b), (1, .ref (xB X + 0)), (2, .ref (xB X + 111)), (3, .int i)] [] := by
  refine wG_of (fl_6.eq_1 ..) ?_
  refine wG_aload_n C dL_law_402 1 rfl ?_
  refine wG_aload_n C dL_law_403 0 rfl ?_
  refine wG_iload_n C dL_law_404 3 rfl ?_
  refine wG_iconst C dL_law_405 (v := 1) (by decide) ?_
  refine wG_iadd C dL_law_406 ?_
  refine wG_sld C D dL_law_407 ?_
  refine wG_aload_n C dL_law_408 0 rfl ?_
  refine wG_iload_n C dL_law_409 3 rfl ?_
  refine wG_iconst C dL_law_410 (v := 2) (by decide) ?_
  refine wG_iadd C dL_law_411 ?_
  refine wG_sld C D dL_law_412 ?_
  refine wG_cV_ri [.int (sc (ix (i + 1))), .int (sc (ix (i + 2)))] [] C vw_L_43 (c_X11_about (xl X) (xE X) N q hN h (sc (ix (i + 1))) (sc (ix (i + 2)))) kd_0 (wll hN (by decide)) ⟨by decide, by decide, (show cl + 0 ≤ 600000 by omega), (show sl + 0 ≤ 7302250 by omega)⟩ rfl rfl (Nat.le_of_ble_eq_true rfl) dL_law_413 (cl' := cl) (sl' := sl) rfl rfl (fun u_1 => ?_)
  refine wG_aload_n C dL_law_416 2 rfl ?_
  refine wG_aload_n C dL_law_417 0 rfl ?_
  refine wG_iload_n C dL_law_418 3 rfl ?_
  refine wG_iconst C dL_law_419 (v := 1) (by decide) ?_
  refine wG_iadd C dL_law_420 ?_
  refine wG_sld C D dL_law_421 ?_
  refine wG_aload_n C dL_law_422 0 rfl ?_
  refine wG_iload_n C dL_law_423 3 rfl ?_
  refine wG_iconst C dL_law_424 (v := 2) (by decide) ?_
  refine wG_iadd C dL_law_425 ?_
  refine wG_sld C D dL_law_426 ?_
  refine wG_cV_wi [.int (sc (ix (i + 1))), .int (sc (ix (i + 2)))] [.int u_1] C vw_L_46 (c_X12_about (xl X) (xE X) N q hN h (sc (ix (i + 1))) (sc (ix (i + 2)))) kd_111 (wll hN (by decide)) ⟨by decide, by decide, (show cl + 0 ≤ 600000 by omega), (show sl + 0 ≤ 7302250 by omega)⟩ rfl rfl (Nat.le_of_ble_eq_true rfl) dL_law_427 (cl' := cl) (sl' := sl) rfl rfl (fun u_2 => ?_)
  refine wG_icmp_eq C dL_law_430 ?_ ?_
  · exact wG_exit (fun Q e => gQ_wide (by omega) (by omega) (gQ_lv [0, 1, 2, 3] rfl e))
  · exact wG_none
def fl_7 (sc : Nat → Int32) (Ls : Nat) (i : Int32) (q : Qp) (N : Nat) (h : Hp) : Option (Nat × Hp × Qp) :=
  if inB (i + 1) Ls then
  (f_X11_weighs h (sc (ix (i + 1)))).bind fun u_1 =>
  if inB (i + 1) Ls then
  (f_X12_weighs h (sc (ix (i + 1)))).bind fun u_2 =>
  (if u_1 = u_2.1 then
  some (N, u_2.2, q)
  else
  none) else none else none
set_option maxRecDepth 4000 in
theorem wl_7 {X : wX} {b Ls : Nat} {sc : Nat → Int32} (C : Cx X x code 4 (some .boolean) room_1) (D : scr X b Ls sc) {N cl sl : Nat} {q : Qp} (hN : 137 ≤ N) (hcl : cl + 2 ≤ 600000) (hsl : sl + 6 ≤ 7302250) (h : Hp) (i : Int32) : wG X 4 (fun (t : Nat × Hp × Qp) Q => gQ X 4 Q t.1 t.2.1 (rq t.2.2) (cl + 2) (sl + 6) 1450 [(0, .ref b), (1, .ref (xB X + 0)), (2, .ref (xB X + 111)), (3, .int i)] []) (fl_7 sc Ls i q N h) N h (rq q) cl sl 435 [(0, .ref b), (1, .ref (xB X + 0)), (2, .ref (xB X + 111)), (3, .int i)] [] := by
  refine wG_of (fl_7.eq_1 ..) ?_
  refine wG_aload_n C dL_law_435 1 rfl ?_
  refine wG_aload_n C dL_law_436 0 rfl ?_
  refine wG_iload_n C dL_law_437 3 rfl ?_
  refine wG_iconst C dL_law_438 (v := 1) (by decide) ?_
  refine wG_iadd C dL_law_439 ?_
  refine wG_sld C D dL_law_440 ?_
  refine wG_cV_ri [.int (sc (ix (i + 1)))] [] C vw_L_47 (c_X11_weighs (xl X) (xE X) N q hN h (sc (ix (i + 1)))) kd_0 (wll hN (by decide)) ⟨by decide, by decide, (show cl + 0 ≤ 600000 by omega), (show sl + 0 ≤ 7302250 by omega)⟩ rfl rfl (Nat.le_of_ble_eq_true rfl) dL_law_441 (cl' := cl) (sl' := sl) rfl rfl (fun u_1 => ?_)
  refine wG_aload_n C dL_law_444 2 rfl ?_
  refine wG_aload_n C dL_law_445 0 rfl ?_
  refine wG_iload_n C dL_law_446 3 rfl ?_
  refine wG_iconst C dL_law_447 (v := 1) (by decide) ?_
  refine wG_iadd C dL_law_448 ?_
  refine wG_sld C D dL_law_449 ?_
  refine wG_cV_wi [.int (sc (ix (i + 1)))] [.int u_1] C vw_L_51 (c_X12_weighs (xl X) (xE X) N q hN h (sc (ix (i + 1)))) kd_111 (wll hN (by decide)) ⟨by decide, by decide, (show cl + 0 ≤ 600000 by omega), (show sl + 0 ≤ 7302250 by omega)⟩ rfl rfl (Nat.le_of_ble_eq_true rfl) dL_law_450 (cl' := cl) (sl' := sl) rfl rfl (fun u_2 => ?_)
  refine wG_icmp_eq C dL_law_453 ?_ ?_
  · exact wG_exit (fun Q e => gQ_wide (by omega) (by omega) (gQ_lv [0, 1, 2, 3] rfl e))
  · exact wG_none
def fl_8 (sc : Nat → Int32) (Ls : Nat) (i : Int32) (q : Qp) (N : Nat) (h : Hp) : Option (Nat × Hp × Qp) :=
  if inB (i + 1) Ls then
  (f_X11_pass h (sc (ix (i + 1)))).bind fun u_1 =>
  if inB (i + 1) Ls then
  (f_X12_pass u_1.2 (sc (ix (i + 1)))).bind fun u_2 =>
  (if u_1.1 = u_2.1 then
  some (N, u_2.2, q)
  else
  none) else none else none
set_option maxRecDepth 4000 in
theorem wl_8 {X : wX} {b Ls : Nat} {sc : Nat → Int32} (C : Cx X x code 4 (some .boolean) room_1) (D : scr X b Ls sc) {N cl sl : Nat} {q : Qp} (hN : 137 ≤ N) (hcl : cl + 2 ≤ 600000) (hsl : sl + 6 ≤ 7302250) (h : Hp) (i : Int32) : wG X 4 (fun (t : Nat × Hp × Qp) Q => gQ X 4 Q t.1 t.2.1 (rq t.2.2) (cl + 2) (sl + 6) 1450 [(0, .ref b), (1, .ref (xB X + 0)), (2, .ref (xB X + 111)), (3, .int i)] []) (fl_8 sc Ls i q N h) N h (rq q) cl sl 458 [(0, .ref b), (1, .ref (xB X + 0)), (2, .ref (xB X + 111)), (3, .int i)] [] := by
  refine wG_of (fl_8.eq_1 ..) ?_
  refine wG_aload_n C dL_law_458 1 rfl ?_
  refine wG_aload_n C dL_law_459 0 rfl ?_
  refine wG_iload_n C dL_law_460 3 rfl ?_
  refine wG_iconst C dL_law_461 (v := 1) (by decide) ?_
  refine wG_iadd C dL_law_462 ?_
  refine wG_sld C D dL_law_463 ?_
  refine wG_cV_wi [.int (sc (ix (i + 1)))] [] C vw_L_52 (c_X11_pass (xl X) (xE X) N q hN h (sc (ix (i + 1)))) kd_0 (wll hN (by decide)) ⟨by decide, by decide, (show cl + 0 ≤ 600000 by omega), (show sl + 0 ≤ 7302250 by omega)⟩ rfl rfl (Nat.le_of_ble_eq_true rfl) dL_law_464 (cl' := cl) (sl' := sl) rfl rfl (fun u_1 => ?_)
  refine wG_aload_n C dL_law_467 2 rfl ?_
  refine wG_aload_n C dL_law_468 0 rfl ?_
  refine wG_iload_n C dL_law_469 3 rfl ?_
  refine wG_iconst C dL_law_470 (v := 1) (by decide) ?_
  refine wG_iadd C dL_law_471 ?_
  refine wG_sld C D dL_law_472 ?_
  refine wG_cV_wi [.int (sc (ix (i + 1)))] [.int u_1.1] C vw_L_55 (c_X12_pass (xl X) (xE X) N q hN u_1.2 (sc (ix (i + 1)))) kd_111 (wll hN (by decide)) ⟨by decide, by decide, (show cl + 0 ≤ 600000 by omega), (show sl + 0 ≤ 7302250 by omega)⟩ rfl rfl (Nat.le_of_ble_eq_true rfl) dL_law_473 (cl' := cl) (sl' := sl) rfl rfl (fun u_2 => ?_)
  refine wG_icmp_eq C dL_law_476 ?_ ?_
  · exact wG_exit (fun Q e => gQ_wide (by omega) (by omega) (gQ_lv [0, 1, 2, 3] rfl e))
  · exact wG_none
def fl_9 (sc : Nat → Int32) (Ls : Nat) (i : Int32) (q : Qp) (N : Nat) (h : Hp) : Option (Nat × Hp × Qp) :=
  if inB (i + 1) Ls then
  if inB (i + 2) Ls then
  (f_X11_wrap h (sc (ix (i + 1))) (sc (ix (i + 2)))).bind fun u_1 =>
  if inB (i + 1) Ls then
  if inB (i + 2) Ls then
  (f_X12_wrap u_1.2 (sc (ix (i + 1))) (sc (ix (i + 2)))).bind fun u_2 =>
  (if u_1.1 = u_2.1 then
  some (N, u_2.2, q)
  else
  none) else none else none else none else none
set_option maxRecDepth 4000 in
theorem wl_9 {X : wX} {b Ls : Nat} {sc : Nat → Int32} (C : Cx X x code 4 (some .boolean) room_1) (D : scr X b Ls sc) {N cl sl : Nat} {q : Qp} (hN : 137 ≤ N) (hcl : cl + 2 ≤ 600000) (hsl : sl + 6 ≤ 7302250) (h : Hp) (i : Int32) : wG X 4 (fun (t : Nat × Hp × Qp) Q => gQ X 4 Q t.1 t.2.1 (rq t.2.2) (cl + 2) (sl + 6) 1450 [(0, .ref b), (1, .ref (xB X + 0)), (2, .ref (xB X + 111)), (3, .int i)] []) (fl_9 sc Ls i q N h) N h (rq q) cl sl 481 [(0, .ref b), (1, .ref (xB X + 0)), (2, .ref (xB X + 111)), (3, .int i)] [] := by
  refine wG_of (fl_9.eq_1 ..) ?_
  refine wG_aload_n C dL_law_481 1 rfl ?_
  refine wG_aload_n C dL_law_482 0 rfl ?_
  refine wG_iload_n C dL_law_483 3 rfl ?_
  refine wG_iconst C dL_law_484 (v := 1) (by decide) ?_
  refine wG_iadd C dL_law_485 ?_
  refine wG_sld C D dL_law_486 ?_
  refine wG_aload_n C dL_law_487 0 rfl ?_
  refine wG_iload_n C dL_law_488 3 rfl ?_
  refine wG_iconst C dL_law_489 (v := 2) (by decide) ?_
  refine wG_iadd C dL_law_490 ?_
  refine wG_sld C D dL_law_491 ?_
  refine wG_cV_wi [.int (sc (ix (i + 1))), .int (sc (ix (i + 2)))] [] C vw_L_56 (c_X11_wrap (xl X) (xE X) N q hN h (sc (ix (i + 1))) (sc (ix (i + 2)))) kd_0 (wll hN (by decide)) ⟨by decide, by decide, (show cl + 0 ≤ 600000 by omega), (show sl + 0 ≤ 7302250 by omega)⟩ rfl rfl (Nat.le_of_ble_eq_true rfl) dL_law_492 (cl' := cl) (sl' := sl) rfl rfl (fun u_1 => ?_)
  refine wG_aload_n C dL_law_495 2 rfl ?_
  refine wG_aload_n C dL_law_496 0 rfl ?_
  refine wG_iload_n C dL_law_497 3 rfl ?_
  refine wG_iconst C dL_law_498 (v := 1) (by decide) ?_
  refine wG_iadd C dL_law_499 ?_
  refine wG_sld C D dL_law_500 ?_
  refine wG_aload_n C dL_law_501 0 rfl ?_
  refine wG_iload_n C dL_law_502 3 rfl ?_
  refine wG_iconst C dL_law_503 (v := 2) (by decide) ?_
  refine wG_iadd C dL_law_504 ?_
  refine wG_sld C D dL_law_505 ?_
  refine wG_cV_wi [.int (sc (ix (i + 1))), .int (sc (ix (i + 2)))] [.int u_1.1] C vw_L_59 (c_X12_wrap (xl X) (xE X) N q hN u_1.2 (sc (ix (i + 1))) (sc (ix (i + 2)))) kd_111 (wll hN (by decide)) ⟨by decide, by decide, (show cl + 0 ≤ 600000 by omega), (show sl + 0 ≤ 7302250 by omega)⟩ rfl rfl (Nat.le_of_ble_eq_true rfl) dL_law_506 (cl' := cl) (sl' := sl) rfl rfl (fun u_2 => ?_)
  refine wG_icmp_eq C dL_law_509 ?_ ?_
  · exact wG_exit (fun Q e => gQ_wide (by omega) (by omega) (gQ_lv [0, 1, 2, 3] rfl e))
  · exact wG_none
def fl_10 (sc : Nat → Int32) (Ls : Nat) (i : Int32) (q : Qp) (N : Nat) (h : Hp) : Option (Nat × Hp × Qp) :=
  if inB (i + 1) Ls then
  (f_X11_trim h (sc (ix (i + 1)))).bind fun u_1 =>
  if inB (i + 1) Ls then
  (f_X12_trim u_1.2 (sc (ix (i + 1)))).bind fun u_2 =>
  (if u_1.1 = u_2.1 then
  some (N, u_2.2, q)
  else
  none) else none else none
set_option maxRecDepth 4000 in
theorem wl_10 {X : wX} {b Ls : Nat} {sc : Nat → Int32} (C : Cx X x code 4 (some .boolean) room_1) (D : scr X b Ls sc) {N cl sl : Nat} {q : Qp} (hN : 137 ≤ N) (hcl : cl + 2 ≤ 600000) (hsl : sl + 6 ≤ 7302250) (h : Hp) (i : Int32) : wG X 4 (fun (t : Nat × Hp × Qp) Q => gQ X 4 Q t.1 t.2.1 (rq t.2.2) (cl + 2) (sl + 6) 1450 [(0, .ref b), (1, .ref (xB X + 0)), (2, .ref (xB X + 111)), (3, .int i)] []) (fl_10 sc Ls i q N h) N h (rq q) cl sl 514 [(0, .ref b), (1, .ref (xB X + 0)), (2, .ref (xB X + 111)), (3, .int i)] [] := by
  refine wG_of (fl_10.eq_1 ..) ?_
  refine wG_aload_n C dL_law_514 1 rfl ?_
  refine wG_aload_n C dL_law_515 0 rfl ?_
  refine wG_iload_n C dL_law_516 3 rfl ?_
  refine wG_iconst C dL_law_517 (v := 1) (by decide) ?_
  refine wG_iadd C dL_law_518 ?_
  refine wG_sld C D dL_law_519 ?_
  refine wG_cV_wi [.int (sc (ix (i + 1)))] [] C vw_L_60 (c_X11_trim (xl X) (xE X) N q hN h (sc (ix (i + 1)))) kd_0 (wll hN (by decide)) ⟨by decide, by decide, (show cl + 0 ≤ 600000 by omega), (show sl + 0 ≤ 7302250 by omega)⟩ rfl rfl (Nat.le_of_ble_eq_true rfl) dL_law_520 (cl' := cl) (sl' := sl) rfl rfl (fun u_1 => ?_)
  refine wG_aload_n C dL_law_523 2 rfl ?_
  refine wG_aload_n C dL_law_524 0 rfl ?_
  refine wG_iload_n C dL_law_525 3 rfl ?_
  refine wG_iconst C dL_law_526 (v := 1) (by decide) ?_
  refine wG_iadd C dL_law_527 ?_
  refine wG_sld C D dL_law_528 ?_
  refine wG_cV_wi [.int (sc (ix (i + 1)))] [.int u_1.1] C vw_L_63 (c_X12_trim (xl X) (xE X) N q hN u_1.2 (sc (ix (i + 1)))) kd_111 (wll hN (by decide)) ⟨by decide, by decide, (show cl + 0 ≤ 600000 by omega), (show sl + 0 ≤ 7302250 by omega)⟩ rfl rfl (Nat.le_of_ble_eq_true rfl) dL_law_529 (cl' := cl) (sl' := sl) rfl rfl (fun u_2 => ?_)
  refine wG_icmp_eq C dL_law_532 ?_ ?_
  · exact wG_exit (fun Q e => gQ_wide (by omega) (by omega) (gQ_lv [0, 1, 2, 3] rfl e))
  · exact wG_none
def fl_11 (sc : Nat → Int32) (Ls : Nat) (i : Int32) (q : Qp) (N : Nat) (h : Hp) : Option (Nat × Hp × Qp) :=
  if inB (i + 1) Ls then
  if inB (i + 2) Ls then
  ((if (sc (ix (i + 2))) = 0 then
  some 0
  else
  some 1)).bind fun t_1 =>
  (f_X11_sell h (sc (ix (i + 1))) t_1).bind fun u_2 =>
  if inB (i + 1) Ls then
  if inB (i + 2) Ls then
  ((if (sc (ix (i + 2))) = 0 then
  some 0
  else
  some 1)).bind fun t_3 =>
  (f_X12_sell u_2.2 (sc (ix (i + 1))) t_3).bind fun u_4 =>
  (if u_2.1 = u_4.1 then
  some (N, u_4.2, q)
  else
  none) else none else none else none else none
set_option maxRecDepth 4000 in
theorem wl_11 {X : wX} {b Ls : Nat} {sc : Nat → Int32} (C : Cx X x code 4 (some .boolean) room_1) (D : scr X b Ls sc) {N cl sl : Nat} {q : Qp} (hN : 137 ≤ N) (hcl : cl + 2 ≤ 600000) (hsl : sl + 6 ≤ 7302250) (h : Hp) (i : Int32) : wG X 4 (fun (t : Nat × Hp × Qp) Q => gQ X 4 Q t.1 t.2.1 (rq t.2.2) (cl + 2) (sl + 6) 1450 [(0, .ref b), (1, .ref (xB X + 0)), (2, .ref (xB X + 111)), (3, .int i)] []) (fl_11 sc Ls i q N h) N h (rq q) cl sl 537 [(0, .ref b), (1, .ref (xB X + 0)), (2, .ref (xB X + 111)), (3, .int i)] [] := by
  refine wG_of (fl_11.eq_1 ..) ?_
  refine wG_aload_n C dL_law_537 1 rfl ?_
  refine wG_aload_n C dL_law_538 0 rfl ?_
  refine wG_iload_n C dL_law_539 3 rfl ?_
  refine wG_iconst C dL_law_540 (v := 1) (by decide) ?_
  refine wG_iadd C dL_law_541 ?_
  refine wG_sld C D dL_law_542 ?_
  refine wG_aload_n C dL_law_543 0 rfl ?_
  refine wG_iload_n C dL_law_544 3 rfl ?_
  refine wG_iconst C dL_law_545 (v := 2) (by decide) ?_
  refine wG_iadd C dL_law_546 ?_
  refine wG_sld C D dL_law_547 ?_
  refine wG_bind (J := (fun (t_1 : Int32) Q => gQ X 4 Q N h (rq q) cl sl 556 [(0, .ref b), (1, .ref (xB X + 0)), (2, .ref (xB X + 111)), (3, .int i)] [.int t_1, .int (sc (ix (i + 1))), .ref (xB X + 0)])) ?_ (fun t_1 => (?_ : wG X 4 _ _ N h (rq q) cl sl 556 [(0, .ref b), (1, .ref (xB X + 0)), (2, .ref (xB X + 111)), (3, .int i)] [.int t_1, .int (sc (ix (i + 1))), .ref (xB X + 0)]))
  · refine wG_if_eq C dL_law_548 ?_ ?_
    · refine wG_iconst C dL_law_555 (v := 0) (by decide) ?_
      exact wG_exit (fun Q e => gQ_lv [0, 1, 2, 3] rfl e)
    · refine wG_iconst C dL_law_551 (v := 1) (by decide) ?_
      refine wG_goto C dL_law_552 ?_
      exact wG_exit (fun Q e => gQ_lv [0, 1, 2, 3] rfl e)
  · refine wG_cV_wi [.int (sc (ix (i + 1))), .int t_1] [] C vw_L_64 (c_X11_sell (xl X) (xE X) N q hN h (sc (ix (i + 1))) t_1) kd_0 (wll hN (by decide)) ⟨by decide, by decide, (show cl + 0 ≤ 600000 by omega), (show sl + 0 ≤ 7302250 by omega)⟩ rfl rfl (Nat.le_of_ble_eq_true rfl) dL_law_556 (cl' := cl) (sl' := sl) rfl rfl (fun u_2 => ?_)
    refine wG_aload_n C dL_law_559 2 rfl ?_
    refine wG_aload_n C dL_law_560 0 rfl ?_
    refine wG_iload_n C dL_law_561 3 rfl ?_
    refine wG_iconst C dL_law_562 (v := 1) (by decide) ?_
    refine wG_iadd C dL_law_563 ?_
    refine wG_sld C D dL_law_564 ?_
    refine wG_aload_n C dL_law_565 0 rfl ?_
    refine wG_iload_n C dL_law_566 3 rfl ?_
    refine wG_iconst C dL_law_567 (v := 2) (by decide) ?_
    refine wG_iadd C dL_law_568 ?_
    refine wG_sld C D dL_law_569 ?_
    refine wG_bind (J := (fun (t_3 : Int32) Q => gQ X 4 Q N u_2.2 (rq q) cl sl 578 [(0, .ref b), (1, .ref (xB X + 0)), (2, .ref (xB X + 111)), (3, .int i)] [.int t_3, .int (sc (ix (i + 1))), .ref (xB X + 111), .int u_2.1])) ?_ (fun t_3 => (?_ : wG X 4 _ _ N u_2.2 (rq q) cl sl 578 [(0, .ref b), (1, .ref (xB X + 0)), (2, .ref (xB X + 111)), (3, .int i)] [.int t_3, .int (sc (ix (i + 1))), .ref (xB X + 111), .int u_2.1]))
    · refine wG_if_eq C dL_law_570 ?_ ?_
      · refine wG_iconst C dL_law_577 (v := 0) (by decide) ?_
        exact wG_exit (fun Q e => gQ_lv [0, 1, 2, 3] rfl e)
      · refine wG_iconst C dL_law_573 (v := 1) (by decide) ?_
        refine wG_goto C dL_law_574 ?_
        exact wG_exit (fun Q e => gQ_lv [0, 1, 2, 3] rfl e)
    · refine wG_cV_wi [.int (sc (ix (i + 1))), .int t_3] [.int u_2.1] C vw_L_68 (c_X12_sell (xl X) (xE X) N q hN u_2.2 (sc (ix (i + 1))) t_3) kd_111 (wll hN (by decide)) ⟨by decide, by decide, (show cl + 0 ≤ 600000 by omega), (show sl + 0 ≤ 7302250 by omega)⟩ rfl rfl (Nat.le_of_ble_eq_true rfl) dL_law_578 (cl' := cl) (sl' := sl) rfl rfl (fun u_4 => ?_)
      refine wG_icmp_eq C dL_law_581 ?_ ?_
      · exact wG_exit (fun Q e => gQ_wide (by omega) (by omega) (gQ_lv [0, 1, 2, 3] rfl e))
      · exact wG_none
def fl_12 (sc : Nat → Int32) (Ls : Nat) (i : Int32) (q : Qp) (N : Nat) (h : Hp) : Option (Nat × Hp × Qp) :=
  if inB (i + 1) Ls then
  if inB (i + 2) Ls then
  if inB (i + 3) Ls then
  if inB (i + 4) Ls then
  (f_X11_serves q N h (sc (ix (i + 1))) (sc (ix (i + 2))) (sc (ix (i + 3))) (sc (ix (i + 4)))).bind fun u_1 =>
  if 137 ≤ u_1.2.1 then
  if inB (i + 1) Ls then
  if inB (i + 2) Ls then
  if inB (i + 3) Ls then
  if inB (i + 4) Ls then
  (f_X12_serves u_1.2.2.1 (sc (ix (i + 1))) (sc (ix (i + 2))) (sc (ix (i + 3))) (sc (ix (i + 4)))).bind fun u_2 =>
  (if u_1.1 = u_2.1 then
  some (u_1.2.1, u_2.2, u_1.2.2.2)
  else
  none) else none else none else none else none else none else none else none else none else none
set_option maxRecDepth 4000 in
theorem wl_12 {X : wX} {b Ls : Nat} {sc : Nat → Int32} (C : Cx X x code 4 (some .boolean) room_1) (D : scr X b Ls sc) {N cl sl : Nat} {q : Qp} (hN : 137 ≤ N) (hcl : cl + 2 ≤ 600000) (hsl : sl + 6 ≤ 7302250) (h : Hp) (i : Int32) : wG X 4 (fun (t : Nat × Hp × Qp) Q => gQ X 4 Q t.1 t.2.1 (rq t.2.2) (cl + 2) (sl + 6) 1450 [(0, .ref b), (1, .ref (xB X + 0)), (2, .ref (xB X + 111)), (3, .int i)] []) (fl_12 sc Ls i q N h) N h (rq q) cl sl 586 [(0, .ref b), (1, .ref (xB X + 0)), (2, .ref (xB X + 111)), (3, .int i)] [] := by
  refine wG_of (fl_12.eq_1 ..) ?_
  refine wG_aload_n C dL_law_586 1 rfl ?_
  refine wG_aload_n C dL_law_587 0 rfl ?_
  refine wG_iload_n C dL_law_588 3 rfl ?_
  refine wG_iconst C dL_law_589 (v := 1) (by decide) ?_
  refine wG_iadd C dL_law_590 ?_
  refine wG_sld C D dL_law_591 ?_
  refine wG_aload_n C dL_law_592 0 rfl ?_
  refine wG_iload_n C dL_law_593 3 rfl ?_
  refine wG_iconst C dL_law_594 (v := 2) (by decide) ?_
  refine wG_iadd C dL_law_595 ?_
  refine wG_sld C D dL_law_596 ?_
  refine wG_aload_n C dL_law_597 0 rfl ?_
  refine wG_iload_n C dL_law_598 3 rfl ?_
  refine wG_iconst C dL_law_599 (v := 3) (by decide) ?_
  refine wG_iadd C dL_law_600 ?_
  refine wG_sld C D dL_law_601 ?_
  refine wG_aload_n C dL_law_602 0 rfl ?_
  refine wG_iload_n C dL_law_603 3 rfl ?_
  refine wG_iconst C dL_law_604 (v := 4) (by decide) ?_
  refine wG_iadd C dL_law_605 ?_
  refine wG_sld C D dL_law_606 ?_
  refine wG_cV_qi [.int (sc (ix (i + 1))), .int (sc (ix (i + 2))), .int (sc (ix (i + 3))), .int (sc (ix (i + 4)))] [] C vw_L_69 (c_X11_serves (xl X) (xE X) N q hN h (sc (ix (i + 1))) (sc (ix (i + 2))) (sc (ix (i + 3))) (sc (ix (i + 4)))) kd_0 (wll hN (by decide)) ⟨by decide, by decide, (show cl + 1 ≤ 600000 by omega), (show sl + 3 ≤ 7302250 by omega)⟩ rfl rfl (Nat.le_of_ble_eq_true rfl) dL_law_607 (cl' := cl + 1) (sl' := sl + 3) rfl rfl (fun u_1 => ?_)
  refine wG_if (fun hN_u_1 => ?_) (fun _ => wG_none)
  refine wG_aload_n C dL_law_610 2 rfl ?_
  refine wG_aload_n C dL_law_611 0 rfl ?_
  refine wG_iload_n C dL_law_612 3 rfl ?_
  refine wG_iconst C dL_law_613 (v := 1) (by decide) ?_
  refine wG_iadd C dL_law_614 ?_
  refine wG_sld C D dL_law_615 ?_
  refine wG_aload_n C dL_law_616 0 rfl ?_
  refine wG_iload_n C dL_law_617 3 rfl ?_
  refine wG_iconst C dL_law_618 (v := 2) (by decide) ?_
  refine wG_iadd C dL_law_619 ?_
  refine wG_sld C D dL_law_620 ?_
  refine wG_aload_n C dL_law_621 0 rfl ?_
  refine wG_iload_n C dL_law_622 3 rfl ?_
  refine wG_iconst C dL_law_623 (v := 3) (by decide) ?_
  refine wG_iadd C dL_law_624 ?_
  refine wG_sld C D dL_law_625 ?_
  refine wG_aload_n C dL_law_626 0 rfl ?_
  refine wG_iload_n C dL_law_627 3 rfl ?_
  refine wG_iconst C dL_law_628 (v := 4) (by decide) ?_
  refine wG_iadd C dL_law_629 ?_
  refine wG_sld C D dL_law_630 ?_
  refine wG_cV_wi [.int (sc (ix (i + 1))), .int (sc (ix (i + 2))), .int (sc (ix (i + 3))), .int (sc (ix (i + 4)))] [.int u_1.1] C vw_L_73 (c_X12_serves (xl X) (xE X) u_1.2.1 u_1.2.2.2 hN_u_1 u_1.2.2.1 (sc (ix (i + 1))) (sc (ix (i + 2))) (sc (ix (i + 3))) (sc (ix (i + 4)))) kd_111 (wll hN_u_1 (by decide)) ⟨by decide, by decide, (show cl + 1 + 0 ≤ 600000 by omega), (show sl + 3 + 0 ≤ 7302250 by omega)⟩ rfl rfl (Nat.le_of_ble_eq_true rfl) dL_law_631 (cl' := cl + 1) (sl' := sl + 3) rfl rfl (fun u_2 => ?_)
  refine wG_icmp_eq C dL_law_634 ?_ ?_
  · exact wG_exit (fun Q e => gQ_wide (by omega) (by omega) (gQ_lv [0, 1, 2, 3] rfl e))
  · exact wG_none
def fl_13 (sc : Nat → Int32) (Ls : Nat) (i : Int32) (q : Qp) (N : Nat) (h : Hp) : Option (Nat × Hp × Qp) :=
  if inB (i + 1) Ls then
  if inB (i + 2) Ls then
  if inB (i + 3) Ls then
  (f_X11_stands q N h (sc (ix (i + 1))) (sc (ix (i + 2))) (sc (ix (i + 3)))).bind fun u_1 =>
  if 137 ≤ u_1.2.1 then
  if inB (i + 1) Ls then
  if inB (i + 2) Ls then
  if inB (i + 3) Ls then
  (f_X12_stands u_1.2.2.1 (sc (ix (i + 1))) (sc (ix (i + 2))) (sc (ix (i + 3)))).bind fun u_2 =>
  (if u_1.1 = u_2.1 then
  some (u_1.2.1, u_2.2, u_1.2.2.2)
  else
  none) else none else none else none else none else none else none else none
set_option maxRecDepth 4000 in
theorem wl_13 {X : wX} {b Ls : Nat} {sc : Nat → Int32} (C : Cx X x code 4 (some .boolean) room_1) (D : scr X b Ls sc) {N cl sl : Nat} {q : Qp} (hN : 137 ≤ N) (hcl : cl + 2 ≤ 600000) (hsl : sl + 6 ≤ 7302250) (h : Hp) (i : Int32) : wG X 4 (fun (t : Nat × Hp × Qp) Q => gQ X 4 Q t.1 t.2.1 (rq t.2.2) (cl + 2) (sl + 6) 1450 [(0, .ref b), (1, .ref (xB X + 0)), (2, .ref (xB X + 111)), (3, .int i)] []) (fl_13 sc Ls i q N h) N h (rq q) cl sl 639 [(0, .ref b), (1, .ref (xB X + 0)), (2, .ref (xB X + 111)), (3, .int i)] [] := by
  refine wG_of (fl_13.eq_1 ..) ?_
  refine wG_aload_n C dL_law_639 1 rfl ?_
  refine wG_aload_n C dL_law_640 0 rfl ?_
  refine wG_iload_n C dL_law_641 3 rfl ?_
  refine wG_iconst C dL_law_642 (v := 1) (by decide) ?_
  refine wG_iadd C dL_law_643 ?_
  refine wG_sld C D dL_law_644 ?_
  refine wG_aload_n C dL_law_645 0 rfl ?_
  refine wG_iload_n C dL_law_646 3 rfl ?_
  refine wG_iconst C dL_law_647 (v := 2) (by decide) ?_
  refine wG_iadd C dL_law_648 ?_
  refine wG_sld C D dL_law_649 ?_
  refine wG_aload_n C dL_law_650 0 rfl ?_
  refine wG_iload_n C dL_law_651 3 rfl ?_
  refine wG_iconst C dL_law_652 (v := 3) (by decide) ?_
  refine wG_iadd C dL_law_653 ?_
  refine wG_sld C D dL_law_654 ?_
  refine wG_cV_qi [.int (sc (ix (i + 1))), .int (sc (ix (i + 2))), .int (sc (ix (i + 3)))] [] C vw_L_74 (c_X11_stands (xl X) (xE X) N q hN h (sc (ix (i + 1))) (sc (ix (i + 2))) (sc (ix (i + 3)))) kd_0 (wll hN (by decide)) ⟨by decide, by decide, (show cl + 1 ≤ 600000 by omega), (show sl + 3 ≤ 7302250 by omega)⟩ rfl rfl (Nat.le_of_ble_eq_true rfl) dL_law_655 (cl' := cl + 1) (sl' := sl + 3) rfl rfl (fun u_1 => ?_)
  refine wG_if (fun hN_u_1 => ?_) (fun _ => wG_none)
  refine wG_aload_n C dL_law_658 2 rfl ?_
  refine wG_aload_n C dL_law_659 0 rfl ?_
  refine wG_iload_n C dL_law_660 3 rfl ?_
  refine wG_iconst C dL_law_661 (v := 1) (by decide) ?_
  refine wG_iadd C dL_law_662 ?_
  refine wG_sld C D dL_law_663 ?_
  refine wG_aload_n C dL_law_664 0 rfl ?_
  refine wG_iload_n C dL_law_665 3 rfl ?_
  refine wG_iconst C dL_law_666 (v := 2) (by decide) ?_
  refine wG_iadd C dL_law_667 ?_
  refine wG_sld C D dL_law_668 ?_
  refine wG_aload_n C dL_law_669 0 rfl ?_
  refine wG_iload_n C dL_law_670 3 rfl ?_
  refine wG_iconst C dL_law_671 (v := 3) (by decide) ?_
  refine wG_iadd C dL_law_672 ?_
  refine wG_sld C D dL_law_673 ?_
  refine wG_cV_wi [.int (sc (ix (i + 1))), .int (sc (ix (i + 2))), .int (sc (ix (i + 3)))] [.int u_1.1] C vw_L_78 (c_X12_stands (xl X) (xE X) u_1.2.1 u_1.2.2.2 hN_u_1 u_1.2.2.1 (sc (ix (i + 1))) (sc (ix (i + 2))) (sc (ix (i + 3)))) kd_111 (wll hN_u_1 (by decide)) ⟨by decide, by decide, (show cl + 1 + 0 ≤ 600000 by omega), (show sl + 3 + 0 ≤ 7302250 by omega)⟩ rfl rfl (Nat.le_of_ble_eq_true rfl) dL_law_674 (cl' := cl + 1) (sl' := sl + 3) rfl rfl (fun u_2 => ?_)
  refine wG_icmp_eq C dL_law_677 ?_ ?_
  · exact wG_exit (fun Q e => gQ_wide (by omega) (by omega) (gQ_lv [0, 1, 2, 3] rfl e))
  · exact wG_none
def fl_14 (sc : Nat → Int32) (Ls : Nat) (i : Int32) (q : Qp) (N : Nat) (h : Hp) : Option (Nat × Hp × Qp) :=
  if inB (i + 1) Ls then
  if inB (i + 2) Ls then
  if inB (i + 3) Ls then
  (f_X11_next q N h (sc (ix (i + 1))) (sc (ix (i + 2))) (sc (ix (i + 3)))).bind fun u_1 =>
  if 137 ≤ u_1.2.1 then
  if inB (i + 1) Ls then
  if inB (i + 2) Ls then
  if inB (i + 3) Ls then
  (f_X12_next u_1.2.2.1 (sc (ix (i + 1))) (sc (ix (i + 2))) (sc (ix (i + 3)))).bind fun u_2 =>
  (if u_1.1 = u_2.1 then
  some (u_1.2.1, u_2.2, u_1.2.2.2)
  else
  none) else none else none else none else none else none else none else none
set_option maxRecDepth 4000 in
theorem wl_14 {X : wX} {b Ls : Nat} {sc : Nat → Int32} (C : Cx X x code 4 (some .boolean) room_1) (D : scr X b Ls sc) {N cl sl : Nat} {q : Qp} (hN : 137 ≤ N) (hcl : cl + 2 ≤ 600000) (hsl : sl + 6 ≤ 7302250) (h : Hp) (i : Int32) : wG X 4 (fun (t : Nat × Hp × Qp) Q => gQ X 4 Q t.1 t.2.1 (rq t.2.2) (cl + 2) (sl + 6) 1450 [(0, .ref b), (1, .ref (xB X + 0)), (2, .ref (xB X + 111)), (3, .int i)] []) (fl_14 sc Ls i q N h) N h (rq q) cl sl 682 [(0, .ref b), (1, .ref (xB X + 0)), (2, .ref (xB X + 111)), (3, .int i)] [] := by
  refine wG_of (fl_14.eq_1 ..) ?_
  refine wG_aload_n C dL_law_682 1 rfl ?_
  refine wG_aload_n C dL_law_683 0 rfl ?_
  refine wG_iload_n C dL_law_684 3 rfl ?_
  refine wG_iconst C dL_law_685 (v := 1) (by decide) ?_
  refine wG_iadd C dL_law_686 ?_
  refine wG_sld C D dL_law_687 ?_
  refine wG_aload_n C dL_law_688 0 rfl ?_
  refine wG_iload_n C dL_law_689 3 rfl ?_
  refine wG_iconst C dL_law_690 (v := 2) (by decide) ?_
  refine wG_iadd C dL_law_691 ?_
  refine wG_sld C D dL_law_692 ?_
  refine wG_aload_n C dL_law_693 0 rfl ?_
  refine wG_iload_n C dL_law_694 3 rfl ?_
  refine wG_iconst C dL_law_695 (v := 3) (by decide) ?_
  refine wG_iadd C dL_law_696 ?_
  refine wG_sld C D dL_law_697 ?_
  refine wG_cV_qi [.int (sc (ix (i + 1))), .int (sc (ix (i + 2))), .int (sc (ix (i + 3)))] [] C vw_L_79 (c_X11_next (xl X) (xE X) N q hN h (sc (ix (i + 1))) (sc (ix (i + 2))) (sc (ix (i + 3)))) kd_0 (wll hN (by decide)) ⟨by decide, by decide, (show cl + 1 ≤ 600000 by omega), (show sl + 3 ≤ 7302250 by omega)⟩ rfl rfl (Nat.le_of_ble_eq_true rfl) dL_law_698 (cl' := cl + 1) (sl' := sl + 3) rfl rfl (fun u_1 => ?_)
  refine wG_if (fun hN_u_1 => ?_) (fun _ => wG_none)
  refine wG_aload_n C dL_law_701 2 rfl ?_
  refine wG_aload_n C dL_law_702 0 rfl ?_
  refine wG_iload_n C dL_law_703 3 rfl ?_
  refine wG_iconst C dL_law_704 (v := 1) (by decide) ?_
  refine wG_iadd C dL_law_705 ?_
  refine wG_sld C D dL_law_706 ?_
  refine wG_aload_n C dL_law_707 0 rfl ?_
  refine wG_iload_n C dL_law_708 3 rfl ?_
  refine wG_iconst C dL_law_709 (v := 2) (by decide) ?_
  refine wG_iadd C dL_law_710 ?_
  refine wG_sld C D dL_law_711 ?_
  refine wG_aload_n C dL_law_712 0 rfl ?_
  refine wG_iload_n C dL_law_713 3 rfl ?_
  refine wG_iconst C dL_law_714 (v := 3) (by decide) ?_
  refine wG_iadd C dL_law_715 ?_
  refine wG_sld C D dL_law_716 ?_
  refine wG_cV_wi [.int (sc (ix (i + 1))), .int (sc (ix (i + 2))), .int (sc (ix (i + 3)))] [.int u_1.1] C vw_L_82 (c_X12_next (xl X) (xE X) u_1.2.1 u_1.2.2.2 hN_u_1 u_1.2.2.1 (sc (ix (i + 1))) (sc (ix (i + 2))) (sc (ix (i + 3)))) kd_111 (wll hN_u_1 (by decide)) ⟨by decide, by decide, (show cl + 1 + 0 ≤ 600000 by omega), (show sl + 3 + 0 ≤ 7302250 by omega)⟩ rfl rfl (Nat.le_of_ble_eq_true rfl) dL_law_717 (cl' := cl + 1) (sl' := sl + 3) rfl rfl (fun u_2 => ?_)
  refine wG_icmp_eq C dL_law_720 ?_ ?_
  · exact wG_exit (fun Q e => gQ_wide (by omega) (by omega) (gQ_lv [0, 1, 2, 3] rfl e))
  · exact wG_none
def fl_15 (sc : Nat → Int32) (Ls : Nat) (i : Int32) (q : Qp) (N : Nat) (h : Hp) : Option (Nat × Hp × Qp) :=
  if inB (i + 1) Ls then
  if inB (i + 2) Ls then
  if inB (i + 3) Ls then
  (f_X11_serve q N h (sc (ix (i + 1))) (sc (ix (i + 2))) (sc (ix (i + 3)))).bind fun u_1 =>
  if 137 ≤ u_1.2.1 then
  if inB (i + 1) Ls then
  if inB (i + 2) Ls then
  if inB (i + 3) Ls then
  (f_X12_serve u_1.2.2.1 (sc (ix (i + 1))) (sc (ix (i + 2))) (sc (ix (i + 3)))).bind fun u_2 =>
  (if u_1.1 = u_2.1 then
  some (u_1.2.1, u_2.2, u_1.2.2.2)
  else
  none) else none else none else none else none else none else none else none
set_option maxRecDepth 4000 in
theorem wl_15 {X : wX} {b Ls : Nat} {sc : Nat → Int32} (C : Cx X x code 4 (some .boolean) room_1) (D : scr X b Ls sc) {N cl sl : Nat} {q : Qp} (hN : 137 ≤ N) (hcl : cl + 2 ≤ 600000) (hsl : sl + 6 ≤ 7302250) (h : Hp) (i : Int32) : wG X 4 (fun (t : Nat × Hp × Qp) Q => gQ X 4 Q t.1 t.2.1 (rq t.2.2) (cl + 2) (sl + 6) 1450 [(0, .ref b), (1, .ref (xB X + 0)), (2, .ref (xB X + 111)), (3, .int i)] []) (fl_15 sc Ls i q N h) N h (rq q) cl sl 725 [(0, .ref b), (1, .ref (xB X + 0)), (2, .ref (xB X + 111)), (3, .int i)] [] := by
  refine wG_of (fl_15.eq_1 ..) ?_
  refine wG_aload_n C dL_law_725 1 rfl ?_
  refine wG_aload_n C dL_law_726 0 rfl ?_
  refine wG_iload_n C dL_law_727 3 rfl ?_
  refine wG_iconst C dL_law_728 (v := 1) (by decide) ?_
  refine wG_iadd C dL_law_729 ?_
  refine wG_sld C D dL_law_730 ?_
  refine wG_aload_n C dL_law_731 0 rfl ?_
  refine wG_iload_n C dL_law_732 3 rfl ?_
  refine wG_iconst C dL_law_733 (v := 2) (by decide) ?_
  refine wG_iadd C dL_law_734 ?_
  refine wG_sld C D dL_law_735 ?_
  refine wG_aload_n C dL_law_736 0 rfl ?_
  refine wG_iload_n C dL_law_737 3 rfl ?_
  refine wG_iconst C dL_law_738 (v := 3) (by decide) ?_
  refine wG_iadd C dL_law_739 ?_
  refine wG_sld C D dL_law_740 ?_
  refine wG_cV_qi [.int (sc (ix (i + 1))), .int (sc (ix (i + 2))), .int (sc (ix (i + 3)))] [] C vw_L_83 (c_X11_serve (xl X) (xE X) N q hN h (sc (ix (i + 1))) (sc (ix (i + 2))) (sc (ix (i + 3)))) kd_0 (wll hN (by decide)) ⟨by decide, by decide, (show cl + 1 ≤ 600000 by omega), (show sl + 3 ≤ 7302250 by omega)⟩ rfl rfl (Nat.le_of_ble_eq_true rfl) dL_law_741 (cl' := cl + 1) (sl' := sl + 3) rfl rfl (fun u_1 => ?_)
  refine wG_if (fun hN_u_1 => ?_) (fun _ => wG_none)
  refine wG_aload_n C dL_law_744 2 rfl ?_
  refine wG_aload_n C dL_law_745 0 rfl ?_
  refine wG_iload_n C dL_law_746 3 rfl ?_
  refine wG_iconst C dL_law_747 (v := 1) (by decide) ?_
  refine wG_iadd C dL_law_748 ?_
  refine wG_sld C D dL_law_749 ?_
  refine wG_aload_n C dL_law_750 0 rfl ?_
  refine wG_iload_n C dL_law_751 3 rfl ?_
  refine wG_iconst C dL_law_752 (v := 2) (by decide) ?_
  refine wG_iadd C dL_law_753 ?_
  refine wG_sld C D dL_law_754 ?_
  refine wG_aload_n C dL_law_755 0 rfl ?_
  refine wG_iload_n C dL_law_756 3 rfl ?_
  refine wG_iconst C dL_law_757 (v := 3) (by decide) ?_
  refine wG_iadd C dL_law_758 ?_
  refine wG_sld C D dL_law_759 ?_
  refine wG_cV_wi [.int (sc (ix (i + 1))), .int (sc (ix (i + 2))), .int (sc (ix (i + 3)))] [.int u_1.1] C vw_L_86 (c_X12_serve (xl X) (xE X) u_1.2.1 u_1.2.2.2 hN_u_1 u_1.2.2.1 (sc (ix (i + 1))) (sc (ix (i + 2))) (sc (ix (i + 3)))) kd_111 (wll hN_u_1 (by decide)) ⟨by decide, by decide, (show cl + 1 + 0 ≤ 600000 by omega), (show sl + 3 + 0 ≤ 7302250 by omega)⟩ rfl rfl (Nat.le_of_ble_eq_true rfl) dL_law_760 (cl' := cl + 1) (sl' := sl + 3) rfl rfl (fun u_2 => ?_)
  refine wG_icmp_eq C dL_law_763 ?_ ?_
  · exact wG_exit (fun Q e => gQ_wide (by omega) (by omega) (gQ_lv [0, 1, 2, 3] rfl e))
  · exact wG_none
def fl_16 (sc : Nat → Int32) (Ls : Nat) (i : Int32) (q : Qp) (N : Nat) (h : Hp) : Option (Nat × Hp × Qp) :=
  if inB (i + 1) Ls then
  if inB (i + 2) Ls then
  if inB (i + 3) Ls then
  if inB (i + 4) Ls then
  if inB (i + 5) Ls then
  (f_X11_two q N h (sc (ix (i + 1))) (sc (ix (i + 2))) (sc (ix (i + 3))) (sc (ix (i + 4))) (sc (ix (i + 5)))).bind fun u_1 =>
  if 137 ≤ u_1.2.1 then
  if inB (i + 1) Ls then
  if inB (i + 2) Ls then
  if inB (i + 3) Ls then
  if inB (i + 4) Ls then
  if inB (i + 5) Ls then
  (f_X12_two u_1.2.2.1 (sc (ix (i + 1))) (sc (ix (i + 2))) (sc (ix (i + 3))) (sc (ix (i + 4))) (sc (ix (i + 5)))).bind fun u_2 =>
  (if u_1.1 = u_2.1 then
  some (u_1.2.1, u_2.2, u_1.2.2.2)
  else
  none) else none else none else none else none else none else none else none else none else none else none else none
set_option maxRecDepth 4000 in
theorem wl_16 {X : wX} {b Ls : Nat} {sc : Nat → Int32} (C : Cx X x code 4 (some .boolean) room_1) (D : scr X b Ls sc) {N cl sl : Nat} {q : Qp} (hN : 137 ≤ N) (hcl : cl + 2 ≤ 600000) (hsl : sl + 6 ≤ 7302250) (h : Hp) (i : Int32) : wG X 4 (fun (t : Nat × Hp × Qp) Q => gQ X 4 Q t.1 t.2.1 (rq t.2.2) (cl + 2) (sl + 6) 1450 [(0, .ref b), (1, .ref (xB X + 0)), (2, .ref (xB X + 111)), (3, .int i)] []) (fl_16 sc Ls i q N h) N h (rq q) cl sl 768 [(0, .ref b), (1, .ref (xB X + 0)), (2, .ref (xB X + 111)), (3, .int i)] [] := by
  refine wG_of (fl_16.eq_1 ..) ?_
  refine wG_aload_n C dL_law_768 1 rfl ?_
  refine wG_aload_n C dL_law_769 0 rfl ?_
  refine wG_iload_n C dL_law_770 3 rfl ?_
  refine wG_iconst C dL_law_771 (v := 1) (by decide) ?_
  refine wG_iadd C dL_law_772 ?_
  refine wG_sld C D dL_law_773 ?_
  refine wG_aload_n C dL_law_774 0 rfl ?_
  refine wG_iload_n C dL_law_775 3 rfl ?_
  refine wG_iconst C dL_law_776 (v := 2) (by decide) ?_
  refine wG_iadd C dL_law_777 ?_
  refine wG_sld C D dL_law_778 ?_
  refine wG_aload_n C dL_law_779 0 rfl ?_
  refine wG_iload_n C dL_law_780 3 rfl ?_
  refine wG_iconst C dL_law_781 (v := 3) (by decide) ?_
  refine wG_iadd C dL_law_782 ?_
  refine wG_sld C D dL_law_783 ?_
  refine wG_aload_n C dL_law_784 0 rfl ?_
  refine wG_iload_n C dL_law_785 3 rfl ?_
  refine wG_iconst C dL_law_786 (v := 4) (by decide) ?_
  refine wG_iadd C dL_law_787 ?_
  refine wG_sld C D dL_law_788 ?_
  refine wG_aload_n C dL_law_789 0 rfl ?_
  refine wG_iload_n C dL_law_790 3 rfl ?_
  refine wG_iconst C dL_law_791 (v := 5) (by decide) ?_
  refine wG_iadd C dL_law_792 ?_
  refine wG_sld C D dL_law_793 ?_
  refine wG_cV_qi [.int (sc (ix (i + 1))), .int (sc (ix (i + 2))), .int (sc (ix (i + 3))), .int (sc (ix (i + 4))), .int (sc (ix (i + 5)))] [] C vw_L_87 (c_X11_two (xl X) (xE X) N q hN h (sc (ix (i + 1))) (sc (ix (i + 2))) (sc (ix (i + 3))) (sc (ix (i + 4))) (sc (ix (i + 5)))) kd_0 (wll hN (by decide)) ⟨by decide, by decide, (show cl + 2 ≤ 600000 by omega), (show sl + 6 ≤ 7302250 by omega)⟩ rfl rfl (Nat.le_of_ble_eq_true rfl) dL_law_794 (cl' := cl + 2) (sl' := sl + 6) rfl rfl (fun u_1 => ?_)
  refine wG_if (fun hN_u_1 => ?_) (fun _ => wG_none)
  refine wG_aload_n C dL_law_797 2 rfl ?_
  refine wG_aload_n C dL_law_798 0 rfl ?_
  refine wG_iload_n C dL_law_799 3 rfl ?_
  refine wG_iconst C dL_law_800 (v := 1) (by decide) ?_
  refine wG_iadd C dL_law_801 ?_
  refine wG_sld C D dL_law_802 ?_
  refine wG_aload_n C dL_law_803 0 rfl ?_
  refine wG_iload_n C dL_law_804 3 rfl ?_
  refine wG_iconst C dL_law_805 (v := 2) (by decide) ?_
  refine wG_iadd C dL_law_806 ?_
  refine wG_sld C D dL_law_807 ?_
  refine wG_aload_n C dL_law_808 0 rfl ?_
  refine wG_iload_n C dL_law_809 3 rfl ?_
  refine wG_iconst C dL_law_810 (v := 3) (by decide) ?_
  refine wG_iadd C dL_law_811 ?_
  refine wG_sld C D dL_law_812 ?_
  refine wG_aload_n C dL_law_813 0 rfl ?_
  refine wG_iload_n C dL_law_814 3 rfl ?_
  refine wG_iconst C dL_law_815 (v := 4) (by decide) ?_
  refine wG_iadd C dL_law_816 ?_
  refine wG_sld C D dL_law_817 ?_
  refine wG_aload_n C dL_law_818 0 rfl ?_
  refine wG_iload_n C dL_law_819 3 rfl ?_
  refine wG_iconst C dL_law_820 (v := 5) (by decide) ?_
  refine wG_iadd C dL_law_821 ?_
  refine wG_sld C D dL_law_822 ?_
  refine wG_cV_wi [.int (sc (ix (i + 1))), .int (sc (ix (i + 2))), .int (sc (ix (i + 3))), .int (sc (ix (i + 4))), .int (sc (ix (i + 5)))] [.int u_1.1] C vw_L_91 (c_X12_two (xl X) (xE X) u_1.2.1 u_1.2.2.2 hN_u_1 u_1.2.2.1 (sc (ix (i + 1))) (sc (ix (i + 2))) (sc (ix (i + 3))) (sc (ix (i + 4))) (sc (ix (i + 5)))) kd_111 (wll hN_u_1 (by decide)) ⟨by decide, by decide, (show cl + 2 + 0 ≤ 600000 by omega), (show sl + 6 + 0 ≤ 7302250 by omega)⟩ rfl rfl (Nat.le_of_ble_eq_true rfl) dL_law_823 (cl' := cl + 2) (sl' := sl + 6) rfl rfl (fun u_2 => ?_)
  refine wG_icmp_eq C dL_law_826 ?_ ?_
  · exact wG_exit (fun Q e => gQ_wide (by omega) (by omega) (gQ_lv [0, 1, 2, 3] rfl e))
  · exact wG_none
def fl_17 (sc : Nat → Int32) (Ls : Nat) (i : Int32) (q : Qp) (N : Nat) (h : Hp) : Option (Nat × Hp × Qp) :=
  if inB (i + 1) Ls then
  if inB (i + 2) Ls then
  if inB (i + 3) Ls then
  if inB (i + 4) Ls then
  if inB (i + 5) Ls then
  (f_X11_twoFirst q N h (sc (ix (i + 1))) (sc (ix (i + 2))) (sc (ix (i + 3))) (sc (ix (i + 4))) (sc (ix (i + 5)))).bind fun u_1 =>
  if 137 ≤ u_1.2.1 then
  if inB (i + 1) Ls then
  if inB (i + 2) Ls then
  if inB (i + 3) Ls then
  if inB (i + 4) Ls then
  if inB (i + 5) Ls then
  (f_X12_twoFirst u_1.2.2.1 (sc (ix (i + 1))) (sc (ix (i + 2))) (sc (ix (i + 3))) (sc (ix (i + 4))) (sc (ix (i + 5)))).bind fun u_2 =>
  (if u_1.1 = u_2.1 then
  some (u_1.2.1, u_2.2, u_1.2.2.2)
  else
  none) else none else none else none else none else none else none else none else none else none else none else none
set_option maxRecDepth 4000 in
theorem wl_17 {X : wX} {b Ls : Nat} {sc : Nat → Int32} (C : Cx X x code 4 (some .boolean) room_1) (D : scr X b Ls sc) {N cl sl : Nat} {q : Qp} (hN : 137 ≤ N) (hcl : cl + 2 ≤ 600000) (hsl : sl + 6 ≤ 7302250) (h : Hp) (i : Int32) : wG X 4 (fun (t : Nat × Hp × Qp) Q => gQ X 4 Q t.1 t.2.1 (rq t.2.2) (cl + 2) (sl + 6) 1450 [(0, .ref b), (1, .ref (xB X + 0)), (2, .ref (xB X + 111)), (3, .int i)] []) (fl_17 sc Ls i q N h) N h (rq q) cl sl 831 [(0, .ref b), (1, .ref (xB X + 0)), (2, .ref (xB X + 111)), (3, .int i)] [] := by
  refine wG_of (fl_17.eq_1 ..) ?_
  refine wG_aload_n C dL_law_831 1 rfl ?_
  refine wG_aload_n C dL_law_832 0 rfl ?_
  refine wG_iload_n C dL_law_833 3 rfl ?_
  refine wG_iconst C dL_law_834 (v := 1) (by decide) ?_
  refine wG_iadd C dL_law_835 ?_
  refine wG_sld C D dL_law_836 ?_
  refine wG_aload_n C dL_law_837 0 rfl ?_
  refine wG_iload_n C dL_law_838 3 rfl ?_
  refine wG_iconst C dL_law_839 (v := 2) (by decide) ?_
  refine wG_iadd C dL_law_840 ?_
  refine wG_sld C D dL_law_841 ?_
  refine wG_aload_n C dL_law_842 0 rfl ?_
  refine wG_iload_n C dL_law_843 3 rfl ?_
  refine wG_iconst C dL_law_844 (v := 3) (by decide) ?_
  refine wG_iadd C dL_law_845 ?_
  refine wG_sld C D dL_law_846 ?_
  refine wG_aload_n C dL_law_847 0 rfl ?_
  refine wG_iload_n C dL_law_848 3 rfl ?_
  refine wG_iconst C dL_law_849 (v := 4) (by decide) ?_
  refine wG_iadd C dL_law_850 ?_
  refine wG_sld C D dL_law_851 ?_
  refine wG_aload_n C dL_law_852 0 rfl ?_
  refine wG_iload_n C dL_law_853 3 rfl ?_
  refine wG_iconst C dL_law_854 (v := 5) (by decide) ?_
  refine wG_iadd C dL_law_855 ?_
  refine wG_sld C D dL_law_856 ?_
  refine wG_cV_qi [.int (sc (ix (i + 1))), .int (sc (ix (i + 2))), .int (sc (ix (i + 3))), .int (sc (ix (i + 4))), .int (sc (ix (i + 5)))] [] C vw_L_92 (c_X11_twoFirst (xl X) (xE X) N q hN h (sc (ix (i + 1))) (sc (ix (i + 2))) (sc (ix (i + 3))) (sc (ix (i + 4))) (sc (ix (i + 5)))) kd_0 (wll hN (by decide)) ⟨by decide, by decide, (show cl + 2 ≤ 600000 by omega), (show sl + 6 ≤ 7302250 by omega)⟩ rfl rfl (Nat.le_of_ble_eq_true rfl) dL_law_857 (cl' := cl + 2) (sl' := sl + 6) rfl rfl (fun u_1 => ?_)
  refine wG_if (fun hN_u_1 => ?_) (fun _ => wG_none)
  refine wG_aload_n C dL_law_860 2 rfl ?_
  refine wG_aload_n C dL_law_861 0 rfl ?_
  refine wG_iload_n C dL_law_862 3 rfl ?_
  refine wG_iconst C dL_law_863 (v := 1) (by decide) ?_
  refine wG_iadd C dL_law_864 ?_
  refine wG_sld C D dL_law_865 ?_
  refine wG_aload_n C dL_law_866 0 rfl ?_
  refine wG_iload_n C dL_law_867 3 rfl ?_
  refine wG_iconst C dL_law_868 (v := 2) (by decide) ?_
  refine wG_iadd C dL_law_869 ?_
  refine wG_sld C D dL_law_870 ?_
  refine wG_aload_n C dL_law_871 0 rfl ?_
  refine wG_iload_n C dL_law_872 3 rfl ?_
  refine wG_iconst C dL_law_873 (v := 3) (by decide) ?_
  refine wG_iadd C dL_law_874 ?_
  refine wG_sld C D dL_law_875 ?_
  refine wG_aload_n C dL_law_876 0 rfl ?_
  refine wG_iload_n C dL_law_877 3 rfl ?_
  refine wG_iconst C dL_law_878 (v := 4) (by decide) ?_
  refine wG_iadd C dL_law_879 ?_
  refine wG_sld C D dL_law_880 ?_
  refine wG_aload_n C dL_law_881 0 rfl ?_
  refine wG_iload_n C dL_law_882 3 rfl ?_
  refine wG_iconst C dL_law_883 (v := 5) (by decide) ?_
  refine wG_iadd C dL_law_884 ?_
  refine wG_sld C D dL_law_885 ?_
  refine wG_cV_wi [.int (sc (ix (i + 1))), .int (sc (ix (i + 2))), .int (sc (ix (i + 3))), .int (sc (ix (i + 4))), .int (sc (ix (i + 5)))] [.int u_1.1] C vw_L_95 (c_X12_twoFirst (xl X) (xE X) u_1.2.1 u_1.2.2.2 hN_u_1 u_1.2.2.1 (sc (ix (i + 1))) (sc (ix (i + 2))) (sc (ix (i + 3))) (sc (ix (i + 4))) (sc (ix (i + 5)))) kd_111 (wll hN_u_1 (by decide)) ⟨by decide, by decide, (show cl + 2 + 0 ≤ 600000 by omega), (show sl + 6 + 0 ≤ 7302250 by omega)⟩ rfl rfl (Nat.le_of_ble_eq_true rfl) dL_law_886 (cl' := cl + 2) (sl' := sl + 6) rfl rfl (fun u_2 => ?_)
  refine wG_icmp_eq C dL_law_889 ?_ ?_
  · exact wG_exit (fun Q e => gQ_wide (by omega) (by omega) (gQ_lv [0, 1, 2, 3] rfl e))
  · exact wG_none
def fl_18 (sc : Nat → Int32) (Ls : Nat) (i : Int32) (q : Qp) (N : Nat) (h : Hp) : Option (Nat × Hp × Qp) :=
  if inB (i + 1) Ls then
  if inB (i + 2) Ls then
  if inB (i + 3) Ls then
  (f_X11_order q N h (sc (ix (i + 1))) (sc (ix (i + 2))) (sc (ix (i + 3)))).bind fun u_1 =>
  if 137 ≤ u_1.2.1 then
  if inB (i + 1) Ls then
  if inB (i + 2) Ls then
  if inB (i + 3) Ls then
  (f_X12_order u_1.2.2.1 (sc (ix (i + 1))) (sc (ix (i + 2))) (sc (ix (i + 3)))).bind fun u_2 =>
  (if u_1.1 = u_2.1 then
  some (u_1.2.1, u_2.2, u_1.2.2.2)
  else
  none) else none else none else none else none else none else none else none
set_option maxRecDepth 4000 in
theorem wl_18 {X : wX} {b Ls : Nat} {sc : Nat → Int32} (C : Cx X x code 4 (some .boolean) room_1) (D : scr X b Ls sc) {N cl sl : Nat} {q : Qp} (hN : 137 ≤ N) (hcl : cl + 2 ≤ 600000) (hsl : sl + 6 ≤ 7302250) (h : Hp) (i : Int32) : wG X 4 (fun (t : Nat × Hp × Qp) Q => gQ X 4 Q t.1 t.2.1 (rq t.2.2) (cl + 2) (sl + 6) 1450 [(0, .ref b), (1, .ref (xB X + 0)), (2, .ref (xB X + 111)), (3, .int i)] []) (fl_18 sc Ls i q N h) N h (rq q) cl sl 894 [(0, .ref b), (1, .ref (xB X + 0)), (2, .ref (xB X + 111)), (3, .int i)] [] := by
  refine wG_of (fl_18.eq_1 ..) ?_
  refine wG_aload_n C dL_law_894 1 rfl ?_
  refine wG_aload_n C dL_law_895 0 rfl ?_
  refine wG_iload_n C dL_law_896 3 rfl ?_
  refine wG_iconst C dL_law_897 (v := 1) (by decide) ?_
  refine wG_iadd C dL_law_898 ?_
  refine wG_sld C D dL_law_899 ?_
  refine wG_aload_n C dL_law_900 0 rfl ?_
  refine wG_iload_n C dL_law_901 3 rfl ?_
  refine wG_iconst C dL_law_902 (v := 2) (by decide) ?_
  refine wG_iadd C dL_law_903 ?_
  refine wG_sld C D dL_law_904 ?_
  refine wG_aload_n C dL_law_905 0 rfl ?_
  refine wG_iload_n C dL_law_906 3 rfl ?_
  refine wG_iconst C dL_law_907 (v := 3) (by decide) ?_
  refine wG_iadd C dL_law_908 ?_
  refine wG_sld C D dL_law_909 ?_
  refine wG_cV_qi [.int (sc (ix (i + 1))), .int (sc (ix (i + 2))), .int (sc (ix (i + 3)))] [] C vw_L_96 (c_X11_order (xl X) (xE X) N q hN h (sc (ix (i + 1))) (sc (ix (i + 2))) (sc (ix (i + 3)))) kd_0 (wll hN (by decide)) ⟨by decide, by decide, (show cl + 1 ≤ 600000 by omega), (show sl + 3 ≤ 7302250 by omega)⟩ rfl rfl (Nat.le_of_ble_eq_true rfl) dL_law_910 (cl' := cl + 1) (sl' := sl + 3) rfl rfl (fun u_1 => ?_)
  refine wG_if (fun hN_u_1 => ?_) (fun _ => wG_none)
  refine wG_aload_n C dL_law_913 2 rfl ?_
  refine wG_aload_n C dL_law_914 0 rfl ?_
  refine wG_iload_n C dL_law_915 3 rfl ?_
  refine wG_iconst C dL_law_916 (v := 1) (by decide) ?_
  refine wG_iadd C dL_law_917 ?_
  refine wG_sld C D dL_law_918 ?_
  refine wG_aload_n C dL_law_919 0 rfl ?_
  refine wG_iload_n C dL_law_920 3 rfl ?_
  refine wG_iconst C dL_law_921 (v := 2) (by decide) ?_
  refine wG_iadd C dL_law_922 ?_
  refine wG_sld C D dL_law_923 ?_
  refine wG_aload_n C dL_law_924 0 rfl ?_
  refine wG_iload_n C dL_law_925 3 rfl ?_
  refine wG_iconst C dL_law_926 (v := 3) (by decide) ?_
  refine wG_iadd C dL_law_927 ?_
  refine wG_sld C D dL_law_928 ?_
  refine wG_cV_wi [.int (sc (ix (i + 1))), .int (sc (ix (i + 2))), .int (sc (ix (i + 3)))] [.int u_1.1] C vw_L_99 (c_X12_order (xl X) (xE X) u_1.2.1 u_1.2.2.2 hN_u_1 u_1.2.2.1 (sc (ix (i + 1))) (sc (ix (i + 2))) (sc (ix (i + 3)))) kd_111 (wll hN_u_1 (by decide)) ⟨by decide, by decide, (show cl + 1 + 0 ≤ 600000 by omega), (show sl + 3 + 0 ≤ 7302250 by omega)⟩ rfl rfl (Nat.le_of_ble_eq_true rfl) dL_law_929 (cl' := cl + 1) (sl' := sl + 3) rfl rfl (fun u_2 => ?_)
  refine wG_icmp_eq C dL_law_932 ?_ ?_
  · exact wG_exit (fun Q e => gQ_wide (by omega) (by omega) (gQ_lv [0, 1, 2, 3] rfl e))
  · exact wG_none
def fl_19 (sc : Nat → Int32) (Ls : Nat) (i : Int32) (q : Qp) (N : Nat) (h : Hp) : Option (Nat × Hp × Qp) :=
  (f_X11_unorder h).bind fun u_1 =>
  (f_X12_unorder u_1.2).bind fun u_2 =>
  (if u_1.1 = u_2.1 then
  some (N, u_2.2, q)
  else
  none)
set_option maxRecDepth 4000 in
theorem wl_19 {X : wX} {b Ls : Nat} {sc : Nat → Int32} (C : Cx X x code 4 (some .boolean) room_1) (D : scr X b Ls sc) {N cl sl : Nat} {q : Qp} (hN : 137 ≤ N) (hcl : cl + 2 ≤ 600000) (hsl : sl + 6 ≤ 7302250) (h : Hp) (i : Int32) : wG X 4 (fun (t : Nat × Hp × Qp) Q => gQ X 4 Q t.1 t.2.1 (rq t.2.2) (cl + 2) (sl + 6) 1450 [(0, .ref b), (1, .ref (xB X + 0)), (2, .ref (xB X + 111)), (3, .int i)] []) (fl_19 sc Ls i q N h) N h (rq q) cl sl 937 [(0, .ref b), (1, .ref (xB X + 0)), (2, .ref (xB X + 111)), (3, .int i)] [] := by
  refine wG_of (fl_19.eq_1 ..) ?_
  refine wG_aload_n C dL_law_937 1 rfl ?_
  refine wG_cV_wi [] [] C vw_L_100 (c_X11_unorder (xl X) (xE X) N q hN h) kd_0 (wll hN (by decide)) ⟨by decide, by decide, (show cl + 0 ≤ 600000 by omega), (show sl + 0 ≤ 7302250 by omega)⟩ rfl rfl (Nat.le_of_ble_eq_true rfl) dL_law_938 (cl' := cl) (sl' := sl) rfl rfl (fun u_1 => ?_)
  refine wG_aload_n C dL_law_941 2 rfl ?_
  refine wG_cV_wi [] [.int u_1.1] C vw_L_103 (c_X12_unorder (xl X) (xE X) N q hN u_1.2) kd_111 (wll hN (by decide)) ⟨by decide, by decide, (show cl + 0 ≤ 600000 by omega), (show sl + 0 ≤ 7302250 by omega)⟩ rfl rfl (Nat.le_of_ble_eq_true rfl) dL_law_942 (cl' := cl) (sl' := sl) rfl rfl (fun u_2 => ?_)
  refine wG_icmp_eq C dL_law_945 ?_ ?_
  · exact wG_exit (fun Q e => gQ_wide (by omega) (by omega) (gQ_lv [0, 1, 2, 3] rfl e))
  · exact wG_none
def fl_20 (sc : Nat → Int32) (Ls : Nat) (i : Int32) (q : Qp) (N : Nat) (h : Hp) : Option (Nat × Hp × Qp) :=
  (f_X11_whole q h).bind fun u_1 =>
  (f_X12_whole u_1.2).bind fun u_2 =>
  (if u_1.1 = u_2.1 then
  some (N, u_2.2, q)
  else
  none)
set_option maxRecDepth 4000 in
theorem wl_20 {X : wX} {b Ls : Nat} {sc : Nat → Int32} (C : Cx X x code 4 (some .boolean) room_1) (D : scr X b Ls sc) {N cl sl : Nat} {q : Qp} (hN : 137 ≤ N) (hcl : cl + 2 ≤ 600000) (hsl : sl + 6 ≤ 7302250) (h : Hp) (i : Int32) : wG X 4 (fun (t : Nat × Hp × Qp) Q => gQ X 4 Q t.1 t.2.1 (rq t.2.2) (cl + 2) (sl + 6) 1450 [(0, .ref b), (1, .ref (xB X + 0)), (2, .ref (xB X + 111)), (3, .int i)] []) (fl_20 sc Ls i q N h) N h (rq q) cl sl 950 [(0, .ref b), (1, .ref (xB X + 0)), (2, .ref (xB X + 111)), (3, .int i)] [] := by
  refine wG_of (fl_20.eq_1 ..) ?_
  refine wG_aload_n C dL_law_950 1 rfl ?_
  refine wG_cV_wi [] [] C vw_L_104 (c_X11_whole (xl X) (xE X) N q hN h) kd_0 (wll hN (by decide)) ⟨by decide, by decide, (show cl + 0 ≤ 600000 by omega), (show sl + 0 ≤ 7302250 by omega)⟩ rfl rfl (Nat.le_of_ble_eq_true rfl) dL_law_951 (cl' := cl) (sl' := sl) rfl rfl (fun u_1 => ?_)
  refine wG_aload_n C dL_law_954 2 rfl ?_
  refine wG_cV_wi [] [.int u_1.1] C vw_L_107 (c_X12_whole (xl X) (xE X) N q hN u_1.2) kd_111 (wll hN (by decide)) ⟨by decide, by decide, (show cl + 0 ≤ 600000 by omega), (show sl + 0 ≤ 7302250 by omega)⟩ rfl rfl (Nat.le_of_ble_eq_true rfl) dL_law_955 (cl' := cl) (sl' := sl) rfl rfl (fun u_2 => ?_)
  refine wG_icmp_eq C dL_law_958 ?_ ?_
  · exact wG_exit (fun Q e => gQ_wide (by omega) (by omega) (gQ_lv [0, 1, 2, 3] rfl e))
  · exact wG_none
def fl_21 (sc : Nat → Int32) (Ls : Nat) (i : Int32) (q : Qp) (N : Nat) (h : Hp) : Option (Nat × Hp × Qp) :=
  (f_X11_first q h).bind fun u_1 =>
  (f_X12_first u_1.2).bind fun u_2 =>
  (if u_1.1 = u_2.1 then
  some (N, u_2.2, q)
  else
  none)
set_option maxRecDepth 4000 in
theorem wl_21 {X : wX} {b Ls : Nat} {sc : Nat → Int32} (C : Cx X x code 4 (some .boolean) room_1) (D : scr X b Ls sc) {N cl sl : Nat} {q : Qp} (hN : 137 ≤ N) (hcl : cl + 2 ≤ 600000) (hsl : sl + 6 ≤ 7302250) (h : Hp) (i : Int32) : wG X 4 (fun (t : Nat × Hp × Qp) Q => gQ X 4 Q t.1 t.2.1 (rq t.2.2) (cl + 2) (sl + 6) 1450 [(0, .ref b), (1, .ref (xB X + 0)), (2, .ref (xB X + 111)), (3, .int i)] []) (fl_21 sc Ls i q N h) N h (rq q) cl sl 963 [(0, .ref b), (1, .ref (xB X + 0)), (2, .ref (xB X + 111)), (3, .int i)] [] := by
  refine wG_of (fl_21.eq_1 ..) ?_
  refine wG_aload_n C dL_law_963 1 rfl ?_
  refine wG_cV_wi [] [] C vw_L_108 (c_X11_first (xl X) (xE X) N q hN h) kd_0 (wll hN (by decide)) ⟨by decide, by decide, (show cl + 0 ≤ 600000 by omega), (show sl + 0 ≤ 7302250 by omega)⟩ rfl rfl (Nat.le_of_ble_eq_true rfl) dL_law_964 (cl' := cl) (sl' := sl) rfl rfl (fun u_1 => ?_)
  refine wG_aload_n C dL_law_967 2 rfl ?_
  refine wG_cV_wi [] [.int u_1.1] C vw_L_111 (c_X12_first (xl X) (xE X) N q hN u_1.2) kd_111 (wll hN (by decide)) ⟨by decide, by decide, (show cl + 0 ≤ 600000 by omega), (show sl + 0 ≤ 7302250 by omega)⟩ rfl rfl (Nat.le_of_ble_eq_true rfl) dL_law_968 (cl' := cl) (sl' := sl) rfl rfl (fun u_2 => ?_)
  refine wG_icmp_eq C dL_law_971 ?_ ?_
  · exact wG_exit (fun Q e => gQ_wide (by omega) (by omega) (gQ_lv [0, 1, 2, 3] rfl e))
  · exact wG_none
def fl_22 (sc : Nat → Int32) (Ls : Nat) (i : Int32) (q : Qp) (N : Nat) (h : Hp) : Option (Nat × Hp × Qp) :=
  if inB (i + 1) Ls then
  (f_X11_fair h (sc (ix (i + 1)))).bind fun u_1 =>
  if inB (i + 1) Ls then
  (f_X12_fair u_1.2 (sc (ix (i + 1)))).bind fun u_2 =>
  (if u_1.1 = u_2.1 then
  some (N, u_2.2, q)
  else
  none) else none else none
set_option maxRecDepth 4000 in
theorem wl_22 {X : wX} {b Ls : Nat} {sc : Nat → Int32} (C : Cx X x code 4 (some .boolean) room_1) (D : scr X b Ls sc) {N cl sl : Nat} {q : Qp} (hN : 137 ≤ N) (hcl : cl + 2 ≤ 600000) (hsl : sl + 6 ≤ 7302250) (h : Hp) (i : Int32) : wG X 4 (fun (t : Nat × Hp × Qp) Q => gQ X 4 Q t.1 t.2.1 (rq t.2.2) (cl + 2) (sl + 6) 1450 [(0, .ref b), (1, .ref (xB X + 0)), (2, .ref (xB X + 111)), (3, .int i)] []) (fl_22 sc Ls i q N h) N h (rq q) cl sl 976 [(0, .ref b), (1, .ref (xB X + 0)), (2, .ref (xB X + 111)), (3, .int i)] [] := by
  refine wG_of (fl_22.eq_1 ..) ?_
  refine wG_aload_n C dL_law_976 1 rfl ?_
  refine wG_aload_n C dL_law_977 0 rfl ?_
  refine wG_iload_n C dL_law_978 3 rfl ?_
  refine wG_iconst C dL_law_979 (v := 1) (by decide) ?_
  refine wG_iadd C dL_law_980 ?_
  refine wG_sld C D dL_law_981 ?_
  refine wG_cV_wi [.int (sc (ix (i + 1)))] [] C vw_L_112 (c_X11_fair (xl X) (xE X) N q hN h (sc (ix (i + 1)))) kd_0 (wll hN (by decide)) ⟨by decide, by decide, (show cl + 0 ≤ 600000 by omega), (show sl + 0 ≤ 7302250 by omega)⟩ rfl rfl (Nat.le_of_ble_eq_true rfl) dL_law_982 (cl' := cl) (sl' := sl) rfl rfl (fun u_1 => ?_)
  refine wG_aload_n C dL_law_985 2 rfl ?_
  refine wG_aload_n C dL_law_986 0 rfl ?_
  refine wG_iload_n C dL_law_987 3 rfl ?_
  refine wG_iconst C dL_law_988 (v := 1) (by decide) ?_
  refine wG_iadd C dL_law_989 ?_
  refine wG_sld C D dL_law_990 ?_
  refine wG_cV_wi [.int (sc (ix (i + 1)))] [.int u_1.1] C vw_L_115 (c_X12_fair (xl X) (xE X) N q hN u_1.2 (sc (ix (i + 1)))) kd_111 (wll hN (by decide)) ⟨by decide, by decide, (show cl + 0 ≤ 600000 by omega), (show sl + 0 ≤ 7302250 by omega)⟩ rfl rfl (Nat.le_of_ble_eq_true rfl) dL_law_991 (cl' := cl) (sl' := sl) rfl rfl (fun u_2 => ?_)
  refine wG_icmp_eq C dL_law_994 ?_ ?_
  · exact wG_exit (fun Q e => gQ_wide (by omega) (by omega) (gQ_lv [0, 1, 2, 3] rfl e))
  · exact wG_none
def fl_23 (sc : Nat → Int32) (Ls : Nat) (i : Int32) (q : Qp) (N : Nat) (h : Hp) : Option (Nat × Hp × Qp) :=
  if inB (i + 1) Ls then
  (f_X11_left h (sc (ix (i + 1)))).bind fun u_1 =>
  if inB (i + 1) Ls then
  (f_X12_left u_1.2 (sc (ix (i + 1)))).bind fun u_2 =>
  (if u_1.1 = u_2.1 then
  some (N, u_2.2, q)
  else
  none) else none else none
set_option maxRecDepth 4000 in
theorem wl_23 {X : wX} {b Ls : Nat} {sc : Nat → Int32} (C : Cx X x code 4 (some .boolean) room_1) (D : scr X b Ls sc) {N cl sl : Nat} {q : Qp} (hN : 137 ≤ N) (hcl : cl + 2 ≤ 600000) (hsl : sl + 6 ≤ 7302250) (h : Hp) (i : Int32) : wG X 4 (fun (t : Nat × Hp × Qp) Q => gQ X 4 Q t.1 t.2.1 (rq t.2.2) (cl + 2) (sl + 6) 1450 [(0, .ref b), (1, .ref (xB X + 0)), (2, .ref (xB X + 111)), (3, .int i)] []) (fl_23 sc Ls i q N h) N h (rq q) cl sl 999 [(0, .ref b), (1, .ref (xB X + 0)), (2, .ref (xB X + 111)), (3, .int i)] [] := by
  refine wG_of (fl_23.eq_1 ..) ?_
  refine wG_aload_n C dL_law_999 1 rfl ?_
  refine wG_aload_n C dL_law_1000 0 rfl ?_
  refine wG_iload_n C dL_law_1001 3 rfl ?_
  refine wG_iconst C dL_law_1002 (v := 1) (by decide) ?_
  refine wG_iadd C dL_law_1003 ?_
  refine wG_sld C D dL_law_1004 ?_
  refine wG_cV_wi [.int (sc (ix (i + 1)))] [] C vw_L_116 (c_X11_left (xl X) (xE X) N q hN h (sc (ix (i + 1)))) kd_0 (wll hN (by decide)) ⟨by decide, by decide, (show cl + 0 ≤ 600000 by omega), (show sl + 0 ≤ 7302250 by omega)⟩ rfl rfl (Nat.le_of_ble_eq_true rfl) dL_law_1005 (cl' := cl) (sl' := sl) rfl rfl (fun u_1 => ?_)
  refine wG_aload_n C dL_law_1008 2 rfl ?_
  refine wG_aload_n C dL_law_1009 0 rfl ?_
  refine wG_iload_n C dL_law_1010 3 rfl ?_
  refine wG_iconst C dL_law_1011 (v := 1) (by decide) ?_
  refine wG_iadd C dL_law_1012 ?_
  refine wG_sld C D dL_law_1013 ?_
  refine wG_cV_wi [.int (sc (ix (i + 1)))] [.int u_1.1] C vw_L_119 (c_X12_left (xl X) (xE X) N q hN u_1.2 (sc (ix (i + 1)))) kd_111 (wll hN (by decide)) ⟨by decide, by decide, (show cl + 0 ≤ 600000 by omega), (show sl + 0 ≤ 7302250 by omega)⟩ rfl rfl (Nat.le_of_ble_eq_true rfl) dL_law_1014 (cl' := cl) (sl' := sl) rfl rfl (fun u_2 => ?_)
  refine wG_icmp_eq C dL_law_1017 ?_ ?_
  · exact wG_exit (fun Q e => gQ_wide (by omega) (by omega) (gQ_lv [0, 1, 2, 3] rfl e))
  · exact wG_none
def fl_24 (sc : Nat → Int32) (Ls : Nat) (i : Int32) (q : Qp) (N : Nat) (h : Hp) : Option (Nat × Hp × Qp) :=
  (f_X11_read h).bind fun u_1 =>
  (f_X12_read u_1.2).bind fun u_2 =>
  (if u_1.1 = u_2.1 then
  some (N, u_2.2, q)
  else
  none)
set_option maxRecDepth 4000 in
theorem wl_24 {X : wX} {b Ls : Nat} {sc : Nat → Int32} (C : Cx X x code 4 (some .boolean) room_1) (D : scr X b Ls sc) {N cl sl : Nat} {q : Qp} (hN : 137 ≤ N) (hcl : cl + 2 ≤ 600000) (hsl : sl + 6 ≤ 7302250) (h : Hp) (i : Int32) : wG X 4 (fun (t : Nat × Hp × Qp) Q => gQ X 4 Q t.1 t.2.1 (rq t.2.2) (cl + 2) (sl + 6) 1450 [(0, .ref b), (1, .ref (xB X + 0)), (2, .ref (xB X + 111)), (3, .int i)] []) (fl_24 sc Ls i q N h) N h (rq q) cl sl 1022 [(0, .ref b), (1, .ref (xB X + 0)), (2, .ref (xB X + 111)), (3, .int i)] [] := by
  refine wG_of (fl_24.eq_1 ..) ?_
  refine wG_aload_n C dL_law_1022 1 rfl ?_
  refine wG_cV_wi [] [] C vw_L_120 (c_X11_read (xl X) (xE X) N q hN h) kd_0 (wll hN (by decide)) ⟨by decide, by decide, (show cl + 0 ≤ 600000 by omega), (show sl + 0 ≤ 7302250 by omega)⟩ rfl rfl (Nat.le_of_ble_eq_true rfl) dL_law_1023 (cl' := cl) (sl' := sl) rfl rfl (fun u_1 => ?_)
  refine wG_aload_n C dL_law_1026 2 rfl ?_
  refine wG_cV_wi [] [.int u_1.1] C vw_L_123 (c_X12_read (xl X) (xE X) N q hN u_1.2) kd_111 (wll hN (by decide)) ⟨by decide, by decide, (show cl + 0 ≤ 600000 by omega), (show sl + 0 ≤ 7302250 by omega)⟩ rfl rfl (Nat.le_of_ble_eq_true rfl) dL_law_1027 (cl' := cl) (sl' := sl) rfl rfl (fun u_2 => ?_)
  refine wG_icmp_eq C dL_law_1030 ?_ ?_
  · exact wG_exit (fun Q e => gQ_wide (by omega) (by omega) (gQ_lv [0, 1, 2, 3] rfl e))
  · exact wG_none
def fl_25 (sc : Nat → Int32) (Ls : Nat) (i : Int32) (q : Qp) (N : Nat) (h : Hp) : Option (Nat × Hp × Qp) :=
  (f_X11_unleft h).bind fun u_1 =>
  (f_X12_unleft u_1.2).bind fun u_2 =>
  (if u_1.1 = u_2.1 then
  some (N, u_2.2, q)
  else
  none)
set_option maxRecDepth 4000 in
theorem wl_25 {X : wX} {b Ls : Nat} {sc : Nat → Int32} (C : Cx X x code 4 (some .boolean) room_1) (D : scr X b Ls sc) {N cl sl : Nat} {q : Qp} (hN : 137 ≤ N) (hcl : cl + 2 ≤ 600000) (hsl : sl + 6 ≤ 7302250) (h : Hp) (i : Int32) : wG X 4 (fun (t : Nat × Hp × Qp) Q => gQ X 4 Q t.1 t.2.1 (rq t.2.2) (cl + 2) (sl + 6) 1450 [(0, .ref b), (1, .ref (xB X + 0)), (2, .ref (xB X + 111)), (3, .int i)] []) (fl_25 sc Ls i q N h) N h (rq q) cl sl 1035 [(0, .ref b), (1, .ref (xB X + 0)), (2, .ref (xB X + 111)), (3, .int i)] [] := by
  refine wG_of (fl_25.eq_1 ..) ?_
  refine wG_aload_n C dL_law_1035 1 rfl ?_
  refine wG_cV_wi [] [] C vw_L_124 (c_X11_unleft (xl X) (xE X) N q hN h) kd_0 (wll hN (by decide)) ⟨by decide, by decide, (show cl + 0 ≤ 600000 by omega), (show sl + 0 ≤ 7302250 by omega)⟩ rfl rfl (Nat.le_of_ble_eq_true rfl) dL_law_1036 (cl' := cl) (sl' := sl) rfl rfl (fun u_1 => ?_)
  refine wG_aload_n C dL_law_1039 2 rfl ?_
  refine wG_cV_wi [] [.int u_1.1] C vw_L_127 (c_X12_unleft (xl X) (xE X) N q hN u_1.2) kd_111 (wll hN (by decide)) ⟨by decide, by decide, (show cl + 0 ≤ 600000 by omega), (show sl + 0 ≤ 7302250 by omega)⟩ rfl rfl (Nat.le_of_ble_eq_true rfl) dL_law_1040 (cl' := cl) (sl' := sl) rfl rfl (fun u_2 => ?_)
  refine wG_icmp_eq C dL_law_1043 ?_ ?_
  · exact wG_exit (fun Q e => gQ_wide (by omega) (by omega) (gQ_lv [0, 1, 2, 3] rfl e))
  · exact wG_none
def fl_26 (sc : Nat → Int32) (Ls : Nat) (i : Int32) (q : Qp) (N : Nat) (h : Hp) : Option (Nat × Hp × Qp) :=
  if inB (i + 1) Ls then
  if inB (i + 2) Ls then
  (f_X11_ripens h (sc (ix (i + 1))) (sc (ix (i + 2)))).bind fun u_1 =>
  if inB (i + 1) Ls then
  if inB (i + 2) Ls then
  (f_X12_ripens u_1.2 (sc (ix (i + 1))) (sc (ix (i + 2)))).bind fun u_2 =>
  (if u_1.1 = u_2.1 then
  some (N, u_2.2, q)
  else
  none) else none else none else none else none
set_option maxRecDepth 4000 in
theorem wl_26 {X : wX} {b Ls : Nat} {sc : Nat → Int32} (C : Cx X x code 4 (some .boolean) room_1) (D : scr X b Ls sc) {N cl sl : Nat} {q : Qp} (hN : 137 ≤ N) (hcl : cl + 2 ≤ 600000) (hsl : sl + 6 ≤ 7302250) (h : Hp) (i : Int32) : wG X 4 (fun (t : Nat × Hp × Qp) Q => gQ X 4 Q t.1 t.2.1 (rq t.2.2) (cl + 2) (sl + 6) 1450 [(0, .ref b), (1, .ref (xB X + 0)), (2, .ref (xB X + 111)), (3, .int i)] []) (fl_26 sc Ls i q N h) N h (rq q) cl sl 1048 [(0, .ref b), (1, .ref (xB X + 0)), (2, .ref (xB X + 111)), (3, .int i)] [] := by
  refine wG_of (fl_26.eq_1 ..) ?_
  refine wG_aload_n C dL_law_1048 1 rfl ?_
  refine wG_aload_n C dL_law_1049 0 rfl ?_
  refine wG_iload_n C dL_law_1050 3 rfl ?_
  refine wG_iconst C dL_law_1051 (v := 1) (by decide) ?_
  refine wG_iadd C dL_law_1052 ?_
  refine wG_sld C D dL_law_1053 ?_
  refine wG_aload_n C dL_law_1054 0 rfl ?_
  refine wG_iload_n C dL_law_1055 3 rfl ?_
  refine wG_iconst C dL_law_1056 (v := 2) (by decide) ?_
  refine wG_iadd C dL_law_1057 ?_
  refine wG_sld C D dL_law_1058 ?_
  refine wG_cV_wi [.int (sc (ix (i + 1))), .int (sc (ix (i + 2)))] [] C vw_L_128 (c_X11_ripens (xl X) (xE X) N q hN h (sc (ix (i + 1))) (sc (ix (i + 2)))) kd_0 (wll hN (by decide)) ⟨by decide, by decide, (show cl + 0 ≤ 600000 by omega), (show sl + 0 ≤ 7302250 by omega)⟩ rfl rfl (Nat.le_of_ble_eq_true rfl) dL_law_1059 (cl' := cl) (sl' := sl) rfl rfl (fun u_1 => ?_)
  refine wG_aload_n C dL_law_1062 2 rfl ?_
  refine wG_aload_n C dL_law_1063 0 rfl ?_
  refine wG_iload_n C dL_law_1064 3 rfl ?_
  refine wG_iconst C dL_law_1065 (v := 1) (by decide) ?_
  refine wG_iadd C dL_law_1066 ?_
  refine wG_sld C D dL_law_1067 ?_
  refine wG_aload_n C dL_law_1068 0 rfl ?_
  refine wG_iload_n C dL_law_1069 3 rfl ?_
  refine wG_iconst C dL_law_1070 (v := 2) (by decide) ?_
  refine wG_iadd C dL_law_1071 ?_
  refine wG_sld C D dL_law_1072 ?_
  refine wG_cV_wi [.int (sc (ix (i + 1))), .int (sc (ix (i + 2)))] [.int u_1.1] C vw_L_131 (c_X12_ripens (xl X) (xE X) N q hN u_1.2 (sc (ix (i + 1))) (sc (ix (i + 2)))) kd_111 (wll hN (by decide)) ⟨by decide, by decide, (show cl + 0 ≤ 600000 by omega), (show sl + 0 ≤ 7302250 by omega)⟩ rfl rfl (Nat.le_of_ble_eq_true rfl) dL_law_1073 (cl' := cl) (sl' := sl) rfl rfl (fun u_2 => ?_)
  refine wG_icmp_eq C dL_law_1076 ?_ ?_
  · exact wG_exit (fun Q e => gQ_wide (by omega) (by omega) (gQ_lv [0, 1, 2, 3] rfl e))
  · exact wG_none
def fl_27 (sc : Nat → Int32) (Ls : Nat) (i : Int32) (q : Qp) (N : Nat) (h : Hp) : Option (Nat × Hp × Qp) :=
  if inB (i + 1) Ls then
  if inB (i + 2) Ls then
  if inB (i + 3) Ls then
  ((if (sc (ix (i + 3))) = 0 then
  some 0
  else
  some 1)).bind fun t_1 =>
  (f_X11_ripe h (sc (ix (i + 1))) (sc (ix (i + 2))) t_1).bind fun u_2 =>
  if inB (i + 1) Ls then
  if inB (i + 2) Ls then
  if inB (i + 3) Ls then
  ((if (sc (ix (i + 3))) = 0 then
  some 0
  else
  some 1)).bind fun t_3 =>
  (f_X12_ripe h (sc (ix (i + 1))) (sc (ix (i + 2))) t_3).bind fun u_4 =>
  (if (lg_cmp u_2 u_4.1) = 0 then
  some (N, u_4.2, q)
  else
  none) else none else none else none else none else none else none
set_option maxRecDepth 4000 in
theorem wl_27 {X : wX} {b Ls : Nat} {sc : Nat → Int32} (C : Cx X x code 4 (some .boolean) room_1) (D : scr X b Ls sc) {N cl sl : Nat} {q : Qp} (hN : 137 ≤ N) (hcl : cl + 2 ≤ 600000) (hsl : sl + 6 ≤ 7302250) (h : Hp) (i : Int32) : wG X 4 (fun (t : Nat × Hp × Qp) Q => gQ X 4 Q t.1 t.2.1 (rq t.2.2) (cl + 2) (sl + 6) 1450 [(0, .ref b), (1, .ref (xB X + 0)), (2, .ref (xB X + 111)), (3, .int i)] []) (fl_27 sc Ls i q N h) N h (rq q) cl sl 1081 [(0, .ref b), (1, .ref (xB X + 0)), (2, .ref (xB X + 111)), (3, .int i)] [] := by
  refine wG_of (fl_27.eq_1 ..) ?_
  refine wG_aload_n C dL_law_1081 1 rfl ?_
  refine wG_aload_n C dL_law_1082 0 rfl ?_
  refine wG_iload_n C dL_law_1083 3 rfl ?_
  refine wG_iconst C dL_law_1084 (v := 1) (by decide) ?_
  refine wG_iadd C dL_law_1085 ?_
  refine wG_sld C D dL_law_1086 ?_
  refine wG_aload_n C dL_law_1087 0 rfl ?_
  refine wG_iload_n C dL_law_1088 3 rfl ?_
  refine wG_iconst C dL_law_1089 (v := 2) (by decide) ?_
  refine wG_iadd C dL_law_1090 ?_
  refine wG_sld C D dL_law_1091 ?_
  refine wG_aload_n C dL_law_1092 0 rfl ?_
  refine wG_iload_n C dL_law_1093 3 rfl ?_
  refine wG_iconst C dL_law_1094 (v := 3) (by decide) ?_
  refine wG_iadd C dL_law_1095 ?_
  refine wG_sld C D dL_law_1096 ?_
  refine wG_bind (J := (fun (t_1 : Int32) Q => gQ X 4 Q N h (rq q) cl sl 1105 [(0, .ref b), (1, .ref (xB X + 0)), (2, .ref (xB X + 111)), (3, .int i)] [.int t_1, .int (sc (ix (i + 2))), .int (sc (ix (i + 1))), .ref (xB X + 0)])) ?_ (fun t_1 => (?_ : wG X 4 _ _ N h (rq q) cl sl 1105 [(0, .ref b), (1, .ref (xB X + 0)), (2, .ref (xB X + 111)), (3, .int i)] [.int t_1, .int (sc (ix (i + 2))), .int (sc (ix (i + 1))), .ref (xB X + 0)]))
  · refine wG_if_eq C dL_law_1097 ?_ ?_
    · refine wG_iconst C dL_law_1104 (v := 0) (by decide) ?_
      exact wG_exit (fun Q e => gQ_lv [0, 1, 2, 3] rfl e)
    · refine wG_iconst C dL_law_1100 (v := 1) (by decide) ?_
      refine wG_goto C dL_law_1101 ?_
      exact wG_exit (fun Q e => gQ_lv [0, 1, 2, 3] rfl e)
  · refine wG_cV_rl [.int (sc (ix (i + 1))), .int (sc (ix (i + 2))), .int t_1] [] C vw_L_132 (c_X11_ripe (xl X) (xE X) N q hN h (sc (ix (i + 1))) (sc (ix (i + 2))) t_1) kd_0 (wll hN (by decide)) ⟨by decide, by decide, (show cl + 0 ≤ 600000 by omega), (show sl + 0 ≤ 7302250 by omega)⟩ rfl rfl (Nat.le_of_ble_eq_true rfl) dL_law_1105 (cl' := cl) (sl' := sl) rfl rfl (fun u_2 => ?_)
    refine wG_aload_n C dL_law_1108 2 rfl ?_
    refine wG_aload_n C dL_law_1109 0 rfl ?_
    refine wG_iload_n C dL_law_1110 3 rfl ?_
    refine wG_iconst C dL_law_1111 (v := 1) (by decide) ?_
    refine wG_iadd C dL_law_1112 ?_
    refine wG_sld C D dL_law_1113 ?_
    refine wG_aload_n C dL_law_1114 0 rfl ?_
    refine wG_iload_n C dL_law_1115 3 rfl ?_
    refine wG_iconst C dL_law_1116 (v := 2) (by decide) ?_
    refine wG_iadd C dL_law_1117 ?_
    refine wG_sld C D dL_law_1118 ?_
    refine wG_aload_n C dL_law_1119 0 rfl ?_
    refine wG_iload_n C dL_law_1120 3 rfl ?_
    refine wG_iconst C dL_law_1121 (v := 3) (by decide) ?_
    refine wG_iadd C dL_law_1122 ?_
    refine wG_sld C D dL_law_1123 ?_
    refine wG_bind (J := (fun (t_3 : Int32) Q => gQ X 4 Q N h (rq q) cl sl 1132 [(0, .ref b), (1, .ref (xB X + 0)), (2, .ref (xB X + 111)), (3, .int i)] [.int t_3, .int (sc (ix (i + 2))), .int (sc (ix (i + 1))), .ref (xB X + 111), .long u_2])) ?_ (fun t_3 => (?_ : wG X 4 _ _ N h (rq q) cl sl 1132 [(0, .ref b), (1, .ref (xB X + 0)), (2, .ref (xB X + 111)), (3, .int i)] [.int t_3, .int (sc (ix (i + 2))), .int (sc (ix (i + 1))), .ref (xB X + 111), .long u_2]))
    · refine wG_if_eq C dL_law_1124 ?_ ?_
      · refine wG_iconst C dL_law_1131 (v := 0) (by decide) ?_
        exact wG_exit (fun Q e => gQ_lv [0, 1, 2, 3] rfl e)
      · refine wG_iconst C dL_law_1127 (v := 1) (by decide) ?_
        refine wG_goto C dL_law_1128 ?_
        exact wG_exit (fun Q e => gQ_lv [0, 1, 2, 3] rfl e)
    · refine wG_cV_wl [.int (sc (ix (i + 1))), .int (sc (ix (i + 2))), .int t_3] [.long u_2] C vw_L_136 (c_X12_ripe (xl X) (xE X) N q hN h (sc (ix (i + 1))) (sc (ix (i + 2))) t_3) kd_111 (wll hN (by decide)) ⟨by decide, by decide, (show cl + 0 ≤ 600000 by omega), (show sl + 0 ≤ 7302250 by omega)⟩ rfl rfl (Nat.le_of_ble_eq_true rfl) dL_law_1132 (cl' := cl) (sl' := sl) rfl rfl (fun u_4 => ?_)
      refine wG_lcmp C dL_law_1135 ?_
      refine wG_if_eq C dL_law_1136 ?_ ?_
      · exact wG_exit (fun Q e => gQ_wide (by omega) (by omega) (gQ_lv [0, 1, 2, 3] rfl e))
      · exact wG_none
def fl_28 (sc : Nat → Int32) (Ls : Nat) (i : Int32) (q : Qp) (N : Nat) (h : Hp) : Option (Nat × Hp × Qp) :=
  if inB (i + 1) Ls then
  (f_X11_ripest h (sc (ix (i + 1)))).bind fun u_1 =>
  if inB (i + 1) Ls then
  (f_X12_ripest h (sc (ix (i + 1)))).bind fun u_2 =>
  (if u_1 = u_2.1 then
  some (N, u_2.2, q)
  else
  none) else none else none
set_option maxRecDepth 4000 in
theorem wl_28 {X : wX} {b Ls : Nat} {sc : Nat → Int32} (C : Cx X x code 4 (some .boolean) room_1) (D : scr X b Ls sc) {N cl sl : Nat} {q : Qp} (hN : 137 ≤ N) (hcl : cl + 2 ≤ 600000) (hsl : sl + 6 ≤ 7302250) (h : Hp) (i : Int32) : wG X 4 (fun (t : Nat × Hp × Qp) Q => gQ X 4 Q t.1 t.2.1 (rq t.2.2) (cl + 2) (sl + 6) 1450 [(0, .ref b), (1, .ref (xB X + 0)), (2, .ref (xB X + 111)), (3, .int i)] []) (fl_28 sc Ls i q N h) N h (rq q) cl sl 1141 [(0, .ref b), (1, .ref (xB X + 0)), (2, .ref (xB X + 111)), (3, .int i)] [] := by
  refine wG_of (fl_28.eq_1 ..) ?_
  refine wG_aload_n C dL_law_1141 1 rfl ?_
  refine wG_aload_n C dL_law_1142 0 rfl ?_
  refine wG_iload_n C dL_law_1143 3 rfl ?_
  refine wG_iconst C dL_law_1144 (v := 1) (by decide) ?_
  refine wG_iadd C dL_law_1145 ?_
  refine wG_sld C D dL_law_1146 ?_
  refine wG_cV_ri [.int (sc (ix (i + 1)))] [] C vw_L_137 (c_X11_ripest (xl X) (xE X) N q hN h (sc (ix (i + 1)))) kd_0 (wll hN (by decide)) ⟨by decide, by decide, (show cl + 0 ≤ 600000 by omega), (show sl + 0 ≤ 7302250 by omega)⟩ rfl rfl (Nat.le_of_ble_eq_true rfl) dL_law_1147 (cl' := cl) (sl' := sl) rfl rfl (fun u_1 => ?_)
  refine wG_aload_n C dL_law_1150 2 rfl ?_
  refine wG_aload_n C dL_law_1151 0 rfl ?_
  refine wG_iload_n C dL_law_1152 3 rfl ?_
  refine wG_iconst C dL_law_1153 (v := 1) (by decide) ?_
  refine wG_iadd C dL_law_1154 ?_
  refine wG_sld C D dL_law_1155 ?_
  refine wG_cV_wi [.int (sc (ix (i + 1)))] [.int u_1] C vw_L_140 (c_X12_ripest (xl X) (xE X) N q hN h (sc (ix (i + 1)))) kd_111 (wll hN (by decide)) ⟨by decide, by decide, (show cl + 0 ≤ 600000 by omega), (show sl + 0 ≤ 7302250 by omega)⟩ rfl rfl (Nat.le_of_ble_eq_true rfl) dL_law_1156 (cl' := cl) (sl' := sl) rfl rfl (fun u_2 => ?_)
  refine wG_icmp_eq C dL_law_1159 ?_ ?_
  · exact wG_exit (fun Q e => gQ_wide (by omega) (by omega) (gQ_lv [0, 1, 2, 3] rfl e))
  · exact wG_none
def fl_29 (sc : Nat → Int32) (Ls : Nat) (i : Int32) (q : Qp) (N : Nat) (h : Hp) : Option (Nat × Hp × Qp) :=
  if inB (i + 1) Ls then
  (f_X11_book h (sc (ix (i + 1)))).bind fun u_1 =>
  if inB (i + 1) Ls then
  (f_X12_book u_1.2 (sc (ix (i + 1)))).bind fun u_2 =>
  (if u_1.1 = u_2.1 then
  some (N, u_2.2, q)
  else
  none) else none else none
set_option maxRecDepth 4000 in
theorem wl_29 {X : wX} {b Ls : Nat} {sc : Nat → Int32} (C : Cx X x code 4 (some .boolean) room_1) (D : scr X b Ls sc) {N cl sl : Nat} {q : Qp} (hN : 137 ≤ N) (hcl : cl + 2 ≤ 600000) (hsl : sl + 6 ≤ 7302250) (h : Hp) (i : Int32) : wG X 4 (fun (t : Nat × Hp × Qp) Q => gQ X 4 Q t.1 t.2.1 (rq t.2.2) (cl + 2) (sl + 6) 1450 [(0, .ref b), (1, .ref (xB X + 0)), (2, .ref (xB X + 111)), (3, .int i)] []) (fl_29 sc Ls i q N h) N h (rq q) cl sl 1164 [(0, .ref b), (1, .ref (xB X + 0)), (2, .ref (xB X + 111)), (3, .int i)] [] := by
  refine wG_of (fl_29.eq_1 ..) ?_
  refine wG_aload_n C dL_law_1164 1 rfl ?_
  refine wG_aload_n C dL_law_1165 0 rfl ?_
  refine wG_iload_n C dL_law_1166 3 rfl ?_
  refine wG_iconst C dL_law_1167 (v := 1) (by decide) ?_
  refine wG_iadd C dL_law_1168 ?_
  refine wG_sld C D dL_law_1169 ?_
  refine wG_cV_wi [.int (sc (ix (i + 1)))] [] C vw_L_141 (c_X11_book (xl X) (xE X) N q hN h (sc (ix (i + 1)))) kd_0 (wll hN (by decide)) ⟨by decide, by decide, (show cl + 0 ≤ 600000 by omega), (show sl + 0 ≤ 7302250 by omega)⟩ rfl rfl (Nat.le_of_ble_eq_true rfl) dL_law_1170 (cl' := cl) (sl' := sl) rfl rfl (fun u_1 => ?_)
  refine wG_aload_n C dL_law_1173 2 rfl ?_
  refine wG_aload_n C dL_law_1174 0 rfl ?_
  refine wG_iload_n C dL_law_1175 3 rfl ?_
  refine wG_iconst C dL_law_1176 (v := 1) (by decide) ?_
  refine wG_iadd C dL_law_1177 ?_
  refine wG_sld C D dL_law_1178 ?_
  refine wG_cV_wi [.int (sc (ix (i + 1)))] [.int u_1.1] C vw_L_144 (c_X12_book (xl X) (xE X) N q hN u_1.2 (sc (ix (i + 1)))) kd_111 (wll hN (by decide)) ⟨by decide, by decide, (show cl + 0 ≤ 600000 by omega), (show sl + 0 ≤ 7302250 by omega)⟩ rfl rfl (Nat.le_of_ble_eq_true rfl) dL_law_1179 (cl' := cl) (sl' := sl) rfl rfl (fun u_2 => ?_)
  refine wG_icmp_eq C dL_law_1182 ?_ ?_
  · exact wG_exit (fun Q e => gQ_wide (by omega) (by omega) (gQ_lv [0, 1, 2, 3] rfl e))
  · exact wG_none
def fl_30 (sc : Nat → Int32) (Ls : Nat) (i : Int32) (q : Qp) (N : Nat) (h : Hp) : Option (Nat × Hp × Qp) :=
  if inB (i + 1) Ls then
  (f_X11_over h (sc (ix (i + 1)))).bind fun u_1 =>
  if inB (i + 1) Ls then
  (f_X12_over h (sc (ix (i + 1)))).bind fun u_2 =>
  (if u_1 = u_2.1 then
  some (N, u_2.2, q)
  else
  none) else none else none
set_option maxRecDepth 4000 in
theorem wl_30 {X : wX} {b Ls : Nat} {sc : Nat → Int32} (C : Cx X x code 4 (some .boolean) room_1) (D : scr X b Ls sc) {N cl sl : Nat} {q : Qp} (hN : 137 ≤ N) (hcl : cl + 2 ≤ 600000) (hsl : sl + 6 ≤ 7302250) (h : Hp) (i : Int32) : wG X 4 (fun (t : Nat × Hp × Qp) Q => gQ X 4 Q t.1 t.2.1 (rq t.2.2) (cl + 2) (sl + 6) 1450 [(0, .ref b), (1, .ref (xB X + 0)), (2, .ref (xB X + 111)), (3, .int i)] []) (fl_30 sc Ls i q N h) N h (rq q) cl sl 1187 [(0, .ref b), (1, .ref (xB X + 0)), (2, .ref (xB X + 111)), (3, .int i)] [] := by
  refine wG_of (fl_30.eq_1 ..) ?_
  refine wG_aload_n C dL_law_1187 1 rfl ?_
  refine wG_aload_n C dL_law_1188 0 rfl ?_
  refine wG_iload_n C dL_law_1189 3 rfl ?_
  refine wG_iconst C dL_law_1190 (v := 1) (by decide) ?_
  refine wG_iadd C dL_law_1191 ?_
  refine wG_sld C D dL_law_1192 ?_
  refine wG_cV_ri [.int (sc (ix (i + 1)))] [] C vw_L_145 (c_X11_over (xl X) (xE X) N q hN h (sc (ix (i + 1)))) kd_0 (wll hN (by decide)) ⟨by decide, by decide, (show cl + 0 ≤ 600000 by omega), (show sl + 0 ≤ 7302250 by omega)⟩ rfl rfl (Nat.le_of_ble_eq_true rfl) dL_law_1193 (cl' := cl) (sl' := sl) rfl rfl (fun u_1 => ?_)
  refine wG_aload_n C dL_law_1196 2 rfl ?_
  refine wG_aload_n C dL_law_1197 0 rfl ?_
  refine wG_iload_n C dL_law_1198 3 rfl ?_
  refine wG_iconst C dL_law_1199 (v := 1) (by decide) ?_
  refine wG_iadd C dL_law_1200 ?_
  refine wG_sld C D dL_law_1201 ?_
  refine wG_cV_wi [.int (sc (ix (i + 1)))] [.int u_1] C vw_L_148 (c_X12_over (xl X) (xE X) N q hN h (sc (ix (i + 1)))) kd_111 (wll hN (by decide)) ⟨by decide, by decide, (show cl + 0 ≤ 600000 by omega), (show sl + 0 ≤ 7302250 by omega)⟩ rfl rfl (Nat.le_of_ble_eq_true rfl) dL_law_1202 (cl' := cl) (sl' := sl) rfl rfl (fun u_2 => ?_)
  refine wG_icmp_eq C dL_law_1205 ?_ ?_
  · exact wG_exit (fun Q e => gQ_wide (by omega) (by omega) (gQ_lv [0, 1, 2, 3] rfl e))
  · exact wG_none
def fl_31 (sc : Nat → Int32) (Ls : Nat) (i : Int32) (q : Qp) (N : Nat) (h : Hp) : Option (Nat × Hp × Qp) :=
  (f_X11_bestOver h).bind fun u_1 =>
  (f_X12_bestOver h).bind fun u_2 =>
  (if u_1 = u_2.1 then
  some (N, u_2.2, q)
  else
  none)
set_option maxRecDepth 4000 in
theorem wl_31 {X : wX} {b Ls : Nat} {sc : Nat → Int32} (C : Cx X x code 4 (some .boolean) room_1) (D : scr X b Ls sc) {N cl sl : Nat} {q : Qp} (hN : 137 ≤ N) (hcl : cl + 2 ≤ 600000) (hsl : sl + 6 ≤ 7302250) (h : Hp) (i : Int32) : wG X 4 (fun (t : Nat × Hp × Qp) Q => gQ X 4 Q t.1 t.2.1 (rq t.2.2) (cl + 2) (sl + 6) 1450 [(0, .ref b), (1, .ref (xB X + 0)), (2, .ref (xB X + 111)), (3, .int i)] []) (fl_31 sc Ls i q N h) N h (rq q) cl sl 1210 [(0, .ref b), (1, .ref (xB X + 0)), (2, .ref (xB X + 111)), (3, .int i)] [] := by
  refine wG_of (fl_31.eq_1 ..) ?_
  refine wG_aload_n C dL_law_1210 1 rfl ?_
  refine wG_cV_ri [] [] C vw_L_149 (c_X11_bestOver (xl X) (xE X) N q hN h) kd_0 (wll hN (by decide)) ⟨by decide, by decide, (show cl + 0 ≤ 600000 by omega), (show sl + 0 ≤ 7302250 by omega)⟩ rfl rfl (Nat.le_of_ble_eq_true rfl) dL_law_1211 (cl' := cl) (sl' := sl) rfl rfl (fun u_1 => ?_)
  refine wG_aload_n C dL_law_1214 2 rfl ?_
  refine wG_cV_wi [] [.int u_1] C vw_L_152 (c_X12_bestOver (xl X) (xE X) N q hN h) kd_111 (wll hN (by decide)) ⟨by decide, by decide, (show cl + 0 ≤ 600000 by omega), (show sl + 0 ≤ 7302250 by omega)⟩ rfl rfl (Nat.le_of_ble_eq_true rfl) dL_law_1215 (cl' := cl) (sl' := sl) rfl rfl (fun u_2 => ?_)
  refine wG_icmp_eq C dL_law_1218 ?_ ?_
  · exact wG_exit (fun Q e => gQ_wide (by omega) (by omega) (gQ_lv [0, 1, 2, 3] rfl e))
  · exact wG_none
def fl_32 (sc : Nat → Int32) (Ls : Nat) (i : Int32) (q : Qp) (N : Nat) (h : Hp) : Option (Nat × Hp × Qp) :=
  if inB (i + 1) Ls then
  if inB (i + 2) Ls then
  ((if (sc (ix (i + 2))) = 0 then
  some 0
  else
  some 1)).bind fun t_1 =>
  (f_X11_taste h (sc (ix (i + 1))) t_1).bind fun u_2 =>
  if inB (i + 1) Ls then
  if inB (i + 2) Ls then
  ((if (sc (ix (i + 2))) = 0 then
  some 0
  else
  some 1)).bind fun t_3 =>
  (f_X12_taste u_2.2 (sc (ix (i + 1))) t_3).bind fun u_4 =>
  (if u_2.1 = u_4.1 then
  some (N, u_4.2, q)
  else
  none) else none else none else none else none
set_option maxRecDepth 4000 in
theorem wl_32 {X : wX} {b Ls : Nat} {sc : Nat → Int32} (C : Cx X x code 4 (some .boolean) room_1) (D : scr X b Ls sc) {N cl sl : Nat} {q : Qp} (hN : 137 ≤ N) (hcl : cl + 2 ≤ 600000) (hsl : sl + 6 ≤ 7302250) (h : Hp) (i : Int32) : wG X 4 (fun (t : Nat × Hp × Qp) Q => gQ X 4 Q t.1 t.2.1 (rq t.2.2) (cl + 2) (sl + 6) 1450 [(0, .ref b), (1, .ref (xB X + 0)), (2, .ref (xB X + 111)), (3, .int i)] []) (fl_32 sc Ls i q N h) N h (rq q) cl sl 1223 [(0, .ref b), (1, .ref (xB X + 0)), (2, .ref (xB X + 111)), (3, .int i)] [] := by
  refine wG_of (fl_32.eq_1 ..) ?_
  refine wG_aload_n C dL_law_1223 1 rfl ?_
  refine wG_aload_n C dL_law_1224 0 rfl ?_
  refine wG_iload_n C dL_law_1225 3 rfl ?_
  refine wG_iconst C dL_law_1226 (v := 1) (by decide) ?_
  refine wG_iadd C dL_law_1227 ?_
  refine wG_sld C D dL_law_1228 ?_
  refine wG_aload_n C dL_law_1229 0 rfl ?_
  refine wG_iload_n C dL_law_1230 3 rfl ?_
  refine wG_iconst C dL_law_1231 (v := 2) (by decide) ?_
  refine wG_iadd C dL_law_1232 ?_
  refine wG_sld C D dL_law_1233 ?_
  refine wG_bind (J := (fun (t_1 : Int32) Q => gQ X 4 Q N h (rq q) cl sl 1242 [(0, .ref b), (1, .ref (xB X + 0)), (2, .ref (xB X + 111)), (3, .int i)] [.int t_1, .int (sc (ix (i + 1))), .ref (xB X + 0)])) ?_ (fun t_1 => (?_ : wG X 4 _ _ N h (rq q) cl sl 1242 [(0, .ref b), (1, .ref (xB X + 0)), (2, .ref (xB X + 111)), (3, .int i)] [.int t_1, .int (sc (ix (i + 1))), .ref (xB X + 0)]))
  · refine wG_if_eq C dL_law_1234 ?_ ?_
    · refine wG_iconst C dL_law_1241 (v := 0) (by decide) ?_
      exact wG_exit (fun Q e => gQ_lv [0, 1, 2, 3] rfl e)
    · refine wG_iconst C dL_law_1237 (v := 1) (by decide) ?_
      refine wG_goto C dL_law_1238 ?_
      exact wG_exit (fun Q e => gQ_lv [0, 1, 2, 3] rfl e)
  · refine wG_cV_wi [.int (sc (ix (i + 1))), .int t_1] [] C vw_L_153 (c_X11_taste (xl X) (xE X) N q hN h (sc (ix (i + 1))) t_1) kd_0 (wll hN (by decide)) ⟨by decide, by decide, (show cl + 0 ≤ 600000 by omega), (show sl + 0 ≤ 7302250 by omega)⟩ rfl rfl (Nat.le_of_ble_eq_true rfl) dL_law_1242 (cl' := cl) (sl' := sl) rfl rfl (fun u_2 => ?_)
    refine wG_aload_n C dL_law_1245 2 rfl ?_
    refine wG_aload_n C dL_law_1246 0 rfl ?_
    refine wG_iload_n C dL_law_1247 3 rfl ?_
    refine wG_iconst C dL_law_1248 (v := 1) (by decide) ?_
    refine wG_iadd C dL_law_1249 ?_
    refine wG_sld C D dL_law_1250 ?_
    refine wG_aload_n C dL_law_1251 0 rfl ?_
    refine wG_iload_n C dL_law_1252 3 rfl ?_
    refine wG_iconst C dL_law_1253 (v := 2) (by decide) ?_
    refine wG_iadd C dL_law_1254 ?_
    refine wG_sld C D dL_law_1255 ?_
    refine wG_bind (J := (fun (t_3 : Int32) Q => gQ X 4 Q N u_2.2 (rq q) cl sl 1264 [(0, .ref b), (1, .ref (xB X + 0)), (2, .ref (xB X + 111)), (3, .int i)] [.int t_3, .int (sc (ix (i + 1))), .ref (xB X + 111), .int u_2.1])) ?_ (fun t_3 => (?_ : wG X 4 _ _ N u_2.2 (rq q) cl sl 1264 [(0, .ref b), (1, .ref (xB X + 0)), (2, .ref (xB X + 111)), (3, .int i)] [.int t_3, .int (sc (ix (i + 1))), .ref (xB X + 111), .int u_2.1]))
    · refine wG_if_eq C dL_law_1256 ?_ ?_
      · refine wG_iconst C dL_law_1263 (v := 0) (by decide) ?_
        exact wG_exit (fun Q e => gQ_lv [0, 1, 2, 3] rfl e)
      · refine wG_iconst C dL_law_1259 (v := 1) (by decide) ?_
        refine wG_goto C dL_law_1260 ?_
        exact wG_exit (fun Q e => gQ_lv [0, 1, 2, 3] rfl e)
    · refine wG_cV_wi [.int (sc (ix (i + 1))), .int t_3] [.int u_2.1] C vw_L_156 (c_X12_taste (xl X) (xE X) N q hN u_2.2 (sc (ix (i + 1))) t_3) kd_111 (wll hN (by decide)) ⟨by decide, by decide, (show cl + 0 ≤ 600000 by omega), (show sl + 0 ≤ 7302250 by omega)⟩ rfl rfl (Nat.le_of_ble_eq_true rfl) dL_law_1264 (cl' := cl) (sl' := sl) rfl rfl (fun u_4 => ?_)
      refine wG_icmp_eq C dL_law_1267 ?_ ?_
      · exact wG_exit (fun Q e => gQ_wide (by omega) (by omega) (gQ_lv [0, 1, 2, 3] rfl e))
      · exact wG_none
def fl_33 (sc : Nat → Int32) (Ls : Nat) (i : Int32) (q : Qp) (N : Nat) (h : Hp) : Option (Nat × Hp × Qp) :=
  if inB (i + 1) Ls then
  if inB (i + 2) Ls then
  ((if (sc (ix (i + 2))) = 0 then
  some 0
  else
  some 1)).bind fun t_1 =>
  (f_X11_brings h (sc (ix (i + 1))) t_1).bind fun u_2 =>
  if inB (i + 1) Ls then
  if inB (i + 2) Ls then
  ((if (sc (ix (i + 2))) = 0 then
  some 0
  else
  some 1)).bind fun t_3 =>
  (f_X12_brings h (sc (ix (i + 1))) t_3).bind fun u_4 =>
  (if (lg_cmp u_2 u_4.1) = 0 then
  some (N, u_4.2, q)
  else
  none) else none else none else none else none
set_option maxRecDepth 4000 in
theorem wl_33 {X : wX} {b Ls : Nat} {sc : Nat → Int32} (C : Cx X x code 4 (some .boolean) room_1) (D : scr X b Ls sc) {N cl sl : Nat} {q : Qp} (hN : 137 ≤ N) (hcl : cl + 2 ≤ 600000) (hsl : sl + 6 ≤ 7302250) (h : Hp) (i : Int32) : wG X 4 (fun (t : Nat × Hp × Qp) Q => gQ X 4 Q t.1 t.2.1 (rq t.2.2) (cl + 2) (sl + 6) 1450 [(0, .ref b), (1, .ref (xB X + 0)), (2, .ref (xB X + 111)), (3, .int i)] []) (fl_33 sc Ls i q N h) N h (rq q) cl sl 1272 [(0, .ref b), (1, .ref (xB X + 0)), (2, .ref (xB X + 111)), (3, .int i)] [] := by
  refine wG_of (fl_33.eq_1 ..) ?_
  refine wG_aload_n C dL_law_1272 1 rfl ?_
  refine wG_aload_n C dL_law_1273 0 rfl ?_
  refine wG_iload_n C dL_law_1274 3 rfl ?_
  refine wG_iconst C dL_law_1275 (v := 1) (by decide) ?_
  refine wG_iadd C dL_law_1276 ?_
  refine wG_sld C D dL_law_1277 ?_
  refine wG_aload_n C dL_law_1278 0 rfl ?_
  refine wG_iload_n C dL_law_1279 3 rfl ?_
  refine wG_iconst C dL_law_1280 (v := 2) (by decide) ?_
  refine wG_iadd C dL_law_1281 ?_
  refine wG_sld C D dL_law_1282 ?_
  refine wG_bind (J := (fun (t_1 : Int32) Q => gQ X 4 Q N h (rq q) cl sl 1291 [(0, .ref b), (1, .ref (xB X + 0)), (2, .ref (xB X + 111)), (3, .int i)] [.int t_1, .int (sc (ix (i + 1))), .ref (xB X + 0)])) ?_ (fun t_1 => (?_ : wG X 4 _ _ N h (rq q) cl sl 1291 [(0, .ref b), (1, .ref (xB X + 0)), (2, .ref (xB X + 111)), (3, .int i)] [.int t_1, .int (sc (ix (i + 1))), .ref (xB X + 0)]))
  · refine wG_if_eq C dL_law_1283 ?_ ?_
    · refine wG_iconst C dL_law_1290 (v := 0) (by decide) ?_
      exact wG_exit (fun Q e => gQ_lv [0, 1, 2, 3] rfl e)
    · refine wG_iconst C dL_law_1286 (v := 1) (by decide) ?_
      refine wG_goto C dL_law_1287 ?_
      exact wG_exit (fun Q e => gQ_lv [0, 1, 2, 3] rfl e)
  · refine wG_cV_rl [.int (sc (ix (i + 1))), .int t_1] [] C vw_L_157 (c_X11_brings (xl X) (xE X) N q hN h (sc (ix (i + 1))) t_1) kd_0 (wll hN (by decide)) ⟨by decide, by decide, (show cl + 0 ≤ 600000 by omega), (show sl + 0 ≤ 7302250 by omega)⟩ rfl rfl (Nat.le_of_ble_eq_true rfl) dL_law_1291 (cl' := cl) (sl' := sl) rfl rfl (fun u_2 => ?_)
    refine wG_aload_n C dL_law_1294 2 rfl ?_
    refine wG_aload_n C dL_law_1295 0 rfl ?_
    refine wG_iload_n C dL_law_1296 3 rfl ?_
    refine wG_iconst C dL_law_1297 (v := 1) (by decide) ?_
    refine wG_iadd C dL_law_1298 ?_
    refine wG_sld C D dL_law_1299 ?_
    refine wG_aload_n C dL_law_1300 0 rfl ?_
    refine wG_iload_n C dL_law_1301 3 rfl ?_
    refine wG_iconst C dL_law_1302 (v := 2) (by decide) ?_
    refine wG_iadd C dL_law_1303 ?_
    refine wG_sld C D dL_law_1304 ?_
    refine wG_bind (J := (fun (t_3 : Int32) Q => gQ X 4 Q N h (rq q) cl sl 1313 [(0, .ref b), (1, .ref (xB X + 0)), (2, .ref (xB X + 111)), (3, .int i)] [.int t_3, .int (sc (ix (i + 1))), .ref (xB X + 111), .long u_2])) ?_ (fun t_3 => (?_ : wG X 4 _ _ N h (rq q) cl sl 1313 [(0, .ref b), (1, .ref (xB X + 0)), (2, .ref (xB X + 111)), (3, .int i)] [.int t_3, .int (sc (ix (i + 1))), .ref (xB X + 111), .long u_2]))
    · refine wG_if_eq C dL_law_1305 ?_ ?_
      · refine wG_iconst C dL_law_1312 (v := 0) (by decide) ?_
        exact wG_exit (fun Q e => gQ_lv [0, 1, 2, 3] rfl e)
      · refine wG_iconst C dL_law_1308 (v := 1) (by decide) ?_
        refine wG_goto C dL_law_1309 ?_
        exact wG_exit (fun Q e => gQ_lv [0, 1, 2, 3] rfl e)
    · refine wG_cV_wl [.int (sc (ix (i + 1))), .int t_3] [.long u_2] C vw_L_161 (c_X12_brings (xl X) (xE X) N q hN h (sc (ix (i + 1))) t_3) kd_111 (wll hN (by decide)) ⟨by decide, by decide, (show cl + 0 ≤ 600000 by omega), (show sl + 0 ≤ 7302250 by omega)⟩ rfl rfl (Nat.le_of_ble_eq_true rfl) dL_law_1313 (cl' := cl) (sl' := sl) rfl rfl (fun u_4 => ?_)
      refine wG_lcmp C dL_law_1316 ?_
      refine wG_if_eq C dL_law_1317 ?_ ?_
      · exact wG_exit (fun Q e => gQ_wide (by omega) (by omega) (gQ_lv [0, 1, 2, 3] rfl e))
      · exact wG_none
def fl_34 (sc : Nat → Int32) (Ls : Nat) (i : Int32) (q : Qp) (N : Nat) (h : Hp) : Option (Nat × Hp × Qp) :=
  (f_X11_bestTaste h).bind fun u_1 =>
  (f_X12_bestTaste h).bind fun u_2 =>
  (if u_1 = u_2.1 then
  some (N, u_2.2, q)
  else
  none)
set_option maxRecDepth 4000 in
theorem wl_34 {X : wX} {b Ls : Nat} {sc : Nat → Int32} (C : Cx X x code 4 (some .boolean) room_1) (D : scr X b Ls sc) {N cl sl : Nat} {q : Qp} (hN : 137 ≤ N) (hcl : cl + 2 ≤ 600000) (hsl : sl + 6 ≤ 7302250) (h : Hp) (i : Int32) : wG X 4 (fun (t : Nat × Hp × Qp) Q => gQ X 4 Q t.1 t.2.1 (rq t.2.2) (cl + 2) (sl + 6) 1450 [(0, .ref b), (1, .ref (xB X + 0)), (2, .ref (xB X + 111)), (3, .int i)] []) (fl_34 sc Ls i q N h) N h (rq q) cl sl 1322 [(0, .ref b), (1, .ref (xB X + 0)), (2, .ref (xB X + 111)), (3, .int i)] [] := by
  refine wG_of (fl_34.eq_1 ..) ?_
  refine wG_aload_n C dL_law_1322 1 rfl ?_
  refine wG_cV_ri [] [] C vw_L_162 (c_X11_bestTaste (xl X) (xE X) N q hN h) kd_0 (wll hN (by decide)) ⟨by decide, by decide, (show cl + 0 ≤ 600000 by omega), (show sl + 0 ≤ 7302250 by omega)⟩ rfl rfl (Nat.le_of_ble_eq_true rfl) dL_law_1323 (cl' := cl) (sl' := sl) rfl rfl (fun u_1 => ?_)
  refine wG_aload_n C dL_law_1326 2 rfl ?_
  refine wG_cV_wi [] [.int u_1] C vw_L_165 (c_X12_bestTaste (xl X) (xE X) N q hN h) kd_111 (wll hN (by decide)) ⟨by decide, by decide, (show cl + 0 ≤ 600000 by omega), (show sl + 0 ≤ 7302250 by omega)⟩ rfl rfl (Nat.le_of_ble_eq_true rfl) dL_law_1327 (cl' := cl) (sl' := sl) rfl rfl (fun u_2 => ?_)
  refine wG_icmp_eq C dL_law_1330 ?_ ?_
  · exact wG_exit (fun Q e => gQ_wide (by omega) (by omega) (gQ_lv [0, 1, 2, 3] rfl e))
  · exact wG_none
def fl_35 (sc : Nat → Int32) (Ls : Nat) (i : Int32) (q : Qp) (N : Nat) (h : Hp) : Option (Nat × Hp × Qp) :=
  if inB (i + 1) Ls then
  if inB (i + 2) Ls then
  (f_X11_prices h (sc (ix (i + 1))) (sc (ix (i + 2)))).bind fun u_1 =>
  if inB (i + 1) Ls then
  if inB (i + 2) Ls then
  (f_X12_prices u_1.2 (sc (ix (i + 1))) (sc (ix (i + 2)))).bind fun u_2 =>
  (if u_1.1 = u_2.1 then
  some (N, u_2.2, q)
  else
  none) else none else none else none else none
set_option maxRecDepth 4000 in
theorem wl_35 {X : wX} {b Ls : Nat} {sc : Nat → Int32} (C : Cx X x code 4 (some .boolean) room_1) (D : scr X b Ls sc) {N cl sl : Nat} {q : Qp} (hN : 137 ≤ N) (hcl : cl + 2 ≤ 600000) (hsl : sl + 6 ≤ 7302250) (h : Hp) (i : Int32) : wG X 4 (fun (t : Nat × Hp × Qp) Q => gQ X 4 Q t.1 t.2.1 (rq t.2.2) (cl + 2) (sl + 6) 1450 [(0, .ref b), (1, .ref (xB X + 0)), (2, .ref (xB X + 111)), (3, .int i)] []) (fl_35 sc Ls i q N h) N h (rq q) cl sl 1335 [(0, .ref b), (1, .ref (xB X + 0)), (2, .ref (xB X + 111)), (3, .int i)] [] := by
  refine wG_of (fl_35.eq_1 ..) ?_
  refine wG_aload_n C dL_law_1335 1 rfl ?_
  refine wG_aload_n C dL_law_1336 0 rfl ?_
  refine wG_iload_n C dL_law_1337 3 rfl ?_
  refine wG_iconst C dL_law_1338 (v := 1) (by decide) ?_
  refine wG_iadd C dL_law_1339 ?_
  refine wG_sld C D dL_law_1340 ?_
  refine wG_aload_n C dL_law_1341 0 rfl ?_
  refine wG_iload_n C dL_law_1342 3 rfl ?_
  refine wG_iconst C dL_law_1343 (v := 2) (by decide) ?_
  refine wG_iadd C dL_law_1344 ?_
  refine wG_sld C D dL_law_1345 ?_
  refine wG_cV_wi [.int (sc (ix (i + 1))), .int (sc (ix (i + 2)))] [] C vw_L_166 (c_X11_prices (xl X) (xE X) N q hN h (sc (ix (i + 1))) (sc (ix (i + 2)))) kd_0 (wll hN (by decide)) ⟨by decide, by decide, (show cl + 0 ≤ 600000 by omega), (show sl + 0 ≤ 7302250 by omega)⟩ rfl rfl (Nat.le_of_ble_eq_true rfl) dL_law_1346 (cl' := cl) (sl' := sl) rfl rfl (fun u_1 => ?_)
  refine wG_aload_n C dL_law_1349 2 rfl ?_
  refine wG_aload_n C dL_law_1350 0 rfl ?_
  refine wG_iload_n C dL_law_1351 3 rfl ?_
  refine wG_iconst C dL_law_1352 (v := 1) (by decide) ?_
  refine wG_iadd C dL_law_1353 ?_
  refine wG_sld C D dL_law_1354 ?_
  refine wG_aload_n C dL_law_1355 0 rfl ?_
  refine wG_iload_n C dL_law_1356 3 rfl ?_
  refine wG_iconst C dL_law_1357 (v := 2) (by decide) ?_
  refine wG_iadd C dL_law_1358 ?_
  refine wG_sld C D dL_law_1359 ?_
  refine wG_cV_wi [.int (sc (ix (i + 1))), .int (sc (ix (i + 2)))] [.int u_1.1] C vw_L_169 (c_X12_prices (xl X) (xE X) N q hN u_1.2 (sc (ix (i + 1))) (sc (ix (i + 2)))) kd_111 (wll hN (by decide)) ⟨by decide, by decide, (show cl + 0 ≤ 600000 by omega), (show sl + 0 ≤ 7302250 by omega)⟩ rfl rfl (Nat.le_of_ble_eq_true rfl) dL_law_1360 (cl' := cl) (sl' := sl) rfl rfl (fun u_2 => ?_)
  refine wG_icmp_eq C dL_law_1363 ?_ ?_
  · exact wG_exit (fun Q e => gQ_wide (by omega) (by omega) (gQ_lv [0, 1, 2, 3] rfl e))
  · exact wG_none
def fl_36 (sc : Nat → Int32) (Ls : Nat) (i : Int32) (q : Qp) (N : Nat) (h : Hp) : Option (Nat × Hp × Qp) :=
  (f_X11_worth h).bind fun u_1 =>
  (f_X12_worth h).bind fun u_2 =>
  (if u_1 = u_2.1 then
  some (N, u_2.2, q)
  else
  none)
set_option maxRecDepth 4000 in
theorem wl_36 {X : wX} {b Ls : Nat} {sc : Nat → Int32} (C : Cx X x code 4 (some .boolean) room_1) (D : scr X b Ls sc) {N cl sl : Nat} {q : Qp} (hN : 137 ≤ N) (hcl : cl + 2 ≤ 600000) (hsl : sl + 6 ≤ 7302250) (h : Hp) (i : Int32) : wG X 4 (fun (t : Nat × Hp × Qp) Q => gQ X 4 Q t.1 t.2.1 (rq t.2.2) (cl + 2) (sl + 6) 1450 [(0, .ref b), (1, .ref (xB X + 0)), (2, .ref (xB X + 111)), (3, .int i)] []) (fl_36 sc Ls i q N h) N h (rq q) cl sl 1368 [(0, .ref b), (1, .ref (xB X + 0)), (2, .ref (xB X + 111)), (3, .int i)] [] := by
  refine wG_of (fl_36.eq_1 ..) ?_
  refine wG_aload_n C dL_law_1368 1 rfl ?_
  refine wG_cV_ri [] [] C vw_L_170 (c_X11_worth (xl X) (xE X) N q hN h) kd_0 (wll hN (by decide)) ⟨by decide, by decide, (show cl + 0 ≤ 600000 by omega), (show sl + 0 ≤ 7302250 by omega)⟩ rfl rfl (Nat.le_of_ble_eq_true rfl) dL_law_1369 (cl' := cl) (sl' := sl) rfl rfl (fun u_1 => ?_)
  refine wG_aload_n C dL_law_1372 2 rfl ?_
  refine wG_cV_wi [] [.int u_1] C vw_L_173 (c_X12_worth (xl X) (xE X) N q hN h) kd_111 (wll hN (by decide)) ⟨by decide, by decide, (show cl + 0 ≤ 600000 by omega), (show sl + 0 ≤ 7302250 by omega)⟩ rfl rfl (Nat.le_of_ble_eq_true rfl) dL_law_1373 (cl' := cl) (sl' := sl) rfl rfl (fun u_2 => ?_)
  refine wG_icmp_eq C dL_law_1376 ?_ ?_
  · exact wG_exit (fun Q e => gQ_wide (by omega) (by omega) (gQ_lv [0, 1, 2, 3] rfl e))
  · exact wG_none
def fl_37 (sc : Nat → Int32) (Ls : Nat) (i : Int32) (q : Qp) (N : Nat) (h : Hp) : Option (Nat × Hp × Qp) :=
  if inB (i + 1) Ls then
  (f_X11_keep h (sc (ix (i + 1)))).bind fun u_1 =>
  if inB (i + 1) Ls then
  (f_X12_keep u_1.2 (sc (ix (i + 1)))).bind fun u_2 =>
  (if u_1.1 = u_2.1 then
  some (N, u_2.2, q)
  else
  none) else none else none
set_option maxRecDepth 4000 in
theorem wl_37 {X : wX} {b Ls : Nat} {sc : Nat → Int32} (C : Cx X x code 4 (some .boolean) room_1) (D : scr X b Ls sc) {N cl sl : Nat} {q : Qp} (hN : 137 ≤ N) (hcl : cl + 2 ≤ 600000) (hsl : sl + 6 ≤ 7302250) (h : Hp) (i : Int32) : wG X 4 (fun (t : Nat × Hp × Qp) Q => gQ X 4 Q t.1 t.2.1 (rq t.2.2) (cl + 2) (sl + 6) 1450 [(0, .ref b), (1, .ref (xB X + 0)), (2, .ref (xB X + 111)), (3, .int i)] []) (fl_37 sc Ls i q N h) N h (rq q) cl sl 1381 [(0, .ref b), (1, .ref (xB X + 0)), (2, .ref (xB X + 111)), (3, .int i)] [] := by
  refine wG_of (fl_37.eq_1 ..) ?_
  refine wG_aload_n C dL_law_1381 1 rfl ?_
  refine wG_aload_n C dL_law_1382 0 rfl ?_
  refine wG_iload_n C dL_law_1383 3 rfl ?_
  refine wG_iconst C dL_law_1384 (v := 1) (by decide) ?_
  refine wG_iadd C dL_law_1385 ?_
  refine wG_sld C D dL_law_1386 ?_
  refine wG_cV_wi [.int (sc (ix (i + 1)))] [] C vw_L_174 (c_X11_keep (xl X) (xE X) N q hN h (sc (ix (i + 1)))) kd_0 (wll hN (by decide)) ⟨by decide, by decide, (show cl + 0 ≤ 600000 by omega), (show sl + 0 ≤ 7302250 by omega)⟩ rfl rfl (Nat.le_of_ble_eq_true rfl) dL_law_1387 (cl' := cl) (sl' := sl) rfl rfl (fun u_1 => ?_)
  refine wG_aload_n C dL_law_1390 2 rfl ?_
  refine wG_aload_n C dL_law_1391 0 rfl ?_
  refine wG_iload_n C dL_law_1392 3 rfl ?_
  refine wG_iconst C dL_law_1393 (v := 1) (by decide) ?_
  refine wG_iadd C dL_law_1394 ?_
  refine wG_sld C D dL_law_1395 ?_
  refine wG_cV_wi [.int (sc (ix (i + 1)))] [.int u_1.1] C vw_L_177 (c_X12_keep (xl X) (xE X) N q hN u_1.2 (sc (ix (i + 1)))) kd_111 (wll hN (by decide)) ⟨by decide, by decide, (show cl + 0 ≤ 600000 by omega), (show sl + 0 ≤ 7302250 by omega)⟩ rfl rfl (Nat.le_of_ble_eq_true rfl) dL_law_1396 (cl' := cl) (sl' := sl) rfl rfl (fun u_2 => ?_)
  refine wG_icmp_eq C dL_law_1399 ?_ ?_
  · exact wG_exit (fun Q e => gQ_wide (by omega) (by omega) (gQ_lv [0, 1, 2, 3] rfl e))
  · exact wG_none
def fl_38 (sc : Nat → Int32) (Ls : Nat) (i : Int32) (q : Qp) (N : Nat) (h : Hp) : Option (Nat × Hp × Qp) :=
  if inB (i + 1) Ls then
  (f_X11_again h (sc (ix (i + 1)))).bind fun u_1 =>
  if inB (i + 1) Ls then
  (f_X12_again u_1.2 (sc (ix (i + 1)))).bind fun u_2 =>
  (if u_1.1 = u_2.1 then
  some (N, u_2.2, q)
  else
  none) else none else none
set_option maxRecDepth 4000 in
theorem wl_38 {X : wX} {b Ls : Nat} {sc : Nat → Int32} (C : Cx X x code 4 (some .boolean) room_1) (D : scr X b Ls sc) {N cl sl : Nat} {q : Qp} (hN : 137 ≤ N) (hcl : cl + 2 ≤ 600000) (hsl : sl + 6 ≤ 7302250) (h : Hp) (i : Int32) : wG X 4 (fun (t : Nat × Hp × Qp) Q => gQ X 4 Q t.1 t.2.1 (rq t.2.2) (cl + 2) (sl + 6) 1450 [(0, .ref b), (1, .ref (xB X + 0)), (2, .ref (xB X + 111)), (3, .int i)] []) (fl_38 sc Ls i q N h) N h (rq q) cl sl 1404 [(0, .ref b), (1, .ref (xB X + 0)), (2, .ref (xB X + 111)), (3, .int i)] [] := by
  refine wG_of (fl_38.eq_1 ..) ?_
  refine wG_aload_n C dL_law_1404 1 rfl ?_
  refine wG_aload_n C dL_law_1405 0 rfl ?_
  refine wG_iload_n C dL_law_1406 3 rfl ?_
  refine wG_iconst C dL_law_1407 (v := 1) (by decide) ?_
  refine wG_iadd C dL_law_1408 ?_
  refine wG_sld C D dL_law_1409 ?_
  refine wG_cV_wi [.int (sc (ix (i + 1)))] [] C vw_L_178 (c_X11_again (xl X) (xE X) N q hN h (sc (ix (i + 1)))) kd_0 (wll hN (by decide)) ⟨by decide, by decide, (show cl + 0 ≤ 600000 by omega), (show sl + 0 ≤ 7302250 by omega)⟩ rfl rfl (Nat.le_of_ble_eq_true rfl) dL_law_1410 (cl' := cl) (sl' := sl) rfl rfl (fun u_1 => ?_)
  refine wG_aload_n C dL_law_1413 2 rfl ?_
  refine wG_aload_n C dL_law_1414 0 rfl ?_
  refine wG_iload_n C dL_law_1415 3 rfl ?_
  refine wG_iconst C dL_law_1416 (v := 1) (by decide) ?_
  refine wG_iadd C dL_law_1417 ?_
  refine wG_sld C D dL_law_1418 ?_
  refine wG_cV_wi [.int (sc (ix (i + 1)))] [.int u_1.1] C vw_L_181 (c_X12_again (xl X) (xE X) N q hN u_1.2 (sc (ix (i + 1)))) kd_111 (wll hN (by decide)) ⟨by decide, by decide, (show cl + 0 ≤ 600000 by omega), (show sl + 0 ≤ 7302250 by omega)⟩ rfl rfl (Nat.le_of_ble_eq_true rfl) dL_law_1419 (cl' := cl) (sl' := sl) rfl rfl (fun u_2 => ?_)
  refine wG_icmp_eq C dL_law_1422 ?_ ?_
  · exact wG_exit (fun Q e => gQ_wide (by omega) (by omega) (gQ_lv [0, 1, 2, 3] rfl e))
  · exact wG_none
def fl_39 (sc : Nat → Int32) (Ls : Nat) (i : Int32) (q : Qp) (N : Nat) (h : Hp) : Option (Nat × Hp × Qp) :=
  if inB (i + 1) Ls then
  (f_X11_count h (sc (ix (i + 1)))).bind fun u_1 =>
  if inB (i + 1) Ls then
  (f_X12_count h (sc (ix (i + 1)))).bind fun u_2 =>
  (if u_1 = u_2.1 then
  some (N, u_2.2, q)
  else
  none) else none else none
set_option maxRecDepth 4000 in
theorem wl_39 {X : wX} {b Ls : Nat} {sc : Nat → Int32} (C : Cx X x code 4 (some .boolean) room_1) (D : scr X b Ls sc) {N cl sl : Nat} {q : Qp} (hN : 137 ≤ N) (hcl : cl + 2 ≤ 600000) (hsl : sl + 6 ≤ 7302250) (h : Hp) (i : Int32) : wG X 4 (fun (t : Nat × Hp × Qp) Q => gQ X 4 Q t.1 t.2.1 (rq t.2.2) (cl + 2) (sl + 6) 1450 [(0, .ref b), (1, .ref (xB X + 0)), (2, .ref (xB X + 111)), (3, .int i)] []) (fl_39 sc Ls i q N h) N h (rq q) cl sl 1427 [(0, .ref b), (1, .ref (xB X + 0)), (2, .ref (xB X + 111)), (3, .int i)] [] := by
  refine wG_of (fl_39.eq_1 ..) ?_
  refine wG_aload_n C dL_law_1427 1 rfl ?_
  refine wG_aload_n C dL_law_1428 0 rfl ?_
  refine wG_iload_n C dL_law_1429 3 rfl ?_
  refine wG_iconst C dL_law_1430 (v := 1) (by decide) ?_
  refine wG_iadd C dL_law_1431 ?_
  refine wG_sld C D dL_law_1432 ?_
  refine wG_cV_ri [.int (sc (ix (i + 1)))] [] C vw_L_182 (c_X11_count (xl X) (xE X) N q hN h (sc (ix (i + 1)))) kd_0 (wll hN (by decide)) ⟨by decide, by decide, (show cl + 0 ≤ 600000 by omega), (show sl + 0 ≤ 7302250 by omega)⟩ rfl rfl (Nat.le_of_ble_eq_true rfl) dL_law_1433 (cl' := cl) (sl' := sl) rfl rfl (fun u_1 => ?_)
  refine wG_aload_n C dL_law_1436 2 rfl ?_
  refine wG_aload_n C dL_law_1437 0 rfl ?_
  refine wG_iload_n C dL_law_1438 3 rfl ?_
  refine wG_iconst C dL_law_1439 (v := 1) (by decide) ?_
  refine wG_iadd C dL_law_1440 ?_
  refine wG_sld C D dL_law_1441 ?_
  refine wG_cV_wi [.int (sc (ix (i + 1)))] [.int u_1] C vw_L_185 (c_X12_count (xl X) (xE X) N q hN h (sc (ix (i + 1)))) kd_111 (wll hN (by decide)) ⟨by decide, by decide, (show cl + 0 ≤ 600000 by omega), (show sl + 0 ≤ 7302250 by omega)⟩ rfl rfl (Nat.le_of_ble_eq_true rfl) dL_law_1442 (cl' := cl) (sl' := sl) rfl rfl (fun u_2 => ?_)
  refine wG_icmp_eq C dL_law_1445 ?_ ?_
  · exact wG_exit (fun Q e => gQ_wide (by omega) (by omega) (gQ_lv [0, 1, 2, 3] rfl e))
  · exact wG_none
def f_step (sc : Nat → Int32) (Ls : Nat) (i : Int32) (q : Qp) (N : Nat) (h : Hp) : Option (Nat × Hp × Qp) :=
  if inB i Ls then
  if (sc (ix i) &&& 63) = 0 then fl_0 sc Ls i q N h else
  if (sc (ix i) &&& 63) = 1 then fl_1 sc Ls i q N h else
  if (sc (ix i) &&& 63) = 2 then fl_2 sc Ls i q N h else
  if (sc (ix i) &&& 63) = 3 then fl_3 sc Ls i q N h else
  if (sc (ix i) &&& 63) = 4 then fl_4 sc Ls i q N h else
  if (sc (ix i) &&& 63) = 5 then fl_5 sc Ls i q N h else
  if (sc (ix i) &&& 63) = 6 then fl_6 sc Ls i q N h else
  if (sc (ix i) &&& 63) = 7 then fl_7 sc Ls i q N h else
  if (sc (ix i) &&& 63) = 8 then fl_8 sc Ls i q N h else
  if (sc (ix i) &&& 63) = 9 then fl_9 sc Ls i q N h else
  if (sc (ix i) &&& 63) = 10 then fl_10 sc Ls i q N h else
  if (sc (ix i) &&& 63) = 11 then fl_11 sc Ls i q N h else
  if (sc (ix i) &&& 63) = 12 then fl_12 sc Ls i q N h else
  if (sc (ix i) &&& 63) = 13 then fl_13 sc Ls i q N h else
  if (sc (ix i) &&& 63) = 14 then fl_14 sc Ls i q N h else
  if (sc (ix i) &&& 63) = 15 then fl_15 sc Ls i q N h else
  if (sc (ix i) &&& 63) = 16 then fl_16 sc Ls i q N h else
  if (sc (ix i) &&& 63) = 17 then fl_17 sc Ls i q N h else
  if (sc (ix i) &&& 63) = 18 then fl_18 sc Ls i q N h else
  if (sc (ix i) &&& 63) = 19 then fl_19 sc Ls i q N h else
  if (sc (ix i) &&& 63) = 20 then fl_20 sc Ls i q N h else
  if (sc (ix i) &&& 63) = 21 then fl_21 sc Ls i q N h else
  if (sc (ix i) &&& 63) = 22 then fl_22 sc Ls i q N h else
  if (sc (ix i) &&& 63) = 23 then fl_23 sc Ls i q N h else
  if (sc (ix i) &&& 63) = 24 then fl_24 sc Ls i q N h else
  if (sc (ix i) &&& 63) = 25 then fl_25 sc Ls i q N h else
  if (sc (ix i) &&& 63) = 26 then fl_26 sc Ls i q N h else
  if (sc (ix i) &&& 63) = 27 then fl_27 sc Ls i q N h else
  if (sc (ix i) &&& 63) = 28 then fl_28 sc Ls i q N h else
  if (sc (ix i) &&& 63) = 29 then fl_29 sc Ls i q N h else
  if (sc (ix i) &&& 63) = 30 then fl_30 sc Ls i q N h else
  if (sc (ix i) &&& 63) = 31 then fl_31 sc Ls i q N h else
  if (sc (ix i) &&& 63) = 32 then fl_32 sc Ls i q N h else
  if (sc (ix i) &&& 63) = 33 then fl_33 sc Ls i q N h else
  if (sc (ix i) &&& 63) = 34 then fl_34 sc Ls i q N h else
  if (sc (ix i) &&& 63) = 35 then fl_35 sc Ls i q N h else
  if (sc (ix i) &&& 63) = 36 then fl_36 sc Ls i q N h else
  if (sc (ix i) &&& 63) = 37 then fl_37 sc Ls i q N h else
  if (sc (ix i) &&& 63) = 38 then fl_38 sc Ls i q N h else
  if (sc (ix i) &&& 63) = 39 then fl_39 sc Ls i q N h else
  some (N, h, q) else none
set_option maxRecDepth 10000 in
set_option maxHeartbeats 2000000 in
theorem w_step {X : wX} {b Ls : Nat} {sc : Nat → Int32} (C : Cx X x code 4 (some .boolean) room_1) (D : scr X b Ls sc) {N cl sl : Nat} {q : Qp} (hN : 137 ≤ N) (hcl : cl + 2 ≤ 600000) (hsl : sl + 6 ≤ 7302250) (h : Hp) (i : Int32) : wG X 4 (fun (t : Nat × Hp × Qp) Q => gQ X 4 Q t.1 t.2.1 (rq t.2.2) (cl + 2) (sl + 6) 1450 [(0, .ref b), (1, .ref (xB X + 0)), (2, .ref (xB X + 111)), (3, .int i)] []) (f_step sc Ls i q N h) N h (rq q) cl sl 27 [(0, .ref b), (1, .ref (xB X + 0)), (2, .ref (xB X + 111)), (3, .int i)] [] := by
  refine wG_of (f_step.eq_1 ..) ?_
  refine wG_aload_n C dL_law_27 0 rfl ?_
  refine wG_iload_n C dL_law_28 3 rfl ?_
  refine wG_sld C D dL_law_29 ?_
  refine wG_bipush C dL_law_30 (v := 63) (by decide) ?_
  refine wG_iand C dL_law_32 ?_
  refine wG_if (fun c0 => wG_tsI C (tgt := 208) c0 dL_law_33 (by decide) (by decide) (175) (by decide) (by decide) (wl_0 C D hN hcl hsl h i)) (fun c0 => ?_)
  refine wG_if (fun c1 => wG_tsI C (tgt := 271) c1 dL_law_33 (by decide) (by decide) (238) (by decide) (by decide) (wl_1 C D hN hcl hsl h i)) (fun c1 => ?_)
  refine wG_if (fun c2 => wG_tsI C (tgt := 284) c2 dL_law_33 (by decide) (by decide) (251) (by decide) (by decide) (wl_2 C D hN hcl hsl h i)) (fun c2 => ?_)
  refine wG_if (fun c3 => wG_tsI C (tgt := 297) c3 dL_law_33 (by decide) (by decide) (264) (by decide) (by decide) (wl_3 C D hN hcl hsl h i)) (fun c3 => ?_)
  refine wG_if (fun c4 => wG_tsI C (tgt := 310) c4 dL_law_33 (by decide) (by decide) (277) (by decide) (by decide) (wl_4 C D hN hcl hsl h i)) (fun c4 => ?_)
  refine wG_if (fun c5 => wG_tsI C (tgt := 343) c5 dL_law_33 (by decide) (by decide) (310) (by decide) (by decide) (wl_5 C D hN hcl hsl h i)) (fun c5 => ?_)
  refine wG_if (fun c6 => wG_tsI C (tgt := 402) c6 dL_law_33 (by decide) (by decide) (369) (by decide) (by decide) (wl_6 C D hN hcl hsl h i)) (fun c6 => ?_)
  refine wG_if (fun c7 => wG_tsI C (tgt := 435) c7 dL_law_33 (by decide) (by decide) (402) (by decide) (by decide) (wl_7 C D hN hcl hsl h i)) (fun c7 => ?_)
  refine wG_if (fun c8 => wG_tsI C (tgt := 458) c8 dL_law_33 (by decide) (by decide) (425) (by decide) (by decide) (wl_8 C D hN hcl hsl h i)) (fun c8 => ?_)
  refine wG_if (fun c9 => wG_tsI C (tgt := 481) c9 dL_law_33 (by decide) (by decide) (448) (by decide) (by decide) (wl_9 C D hN hcl hsl h i)) (fun c9 => ?_)
  refine wG_if (fun c10 => wG_tsI C (tgt := 514) c10 dL_law_33 (by decide) (by decide) (481) (by decide) (by decide) (wl_10 C D hN hcl hsl h i)) (fun c10 => ?_)
  refine wG_if (fun c11 => wG_tsI C (tgt := 537) c11 dL_law_33 (by decide) (by decide) (504) (by decide) (by decide) (wl_11 C D hN hcl hsl h i)) (fun c11 => ?_)
  refine wG_if (fun c12 => wG_tsI C (tgt := 586) c12 dL_law_33 (by decide) (by decide) (553) (by decide) (by decide) (wl_12 C D hN hcl hsl h i)) (fun c12 => ?_)
  refine wG_if (fun c13 => wG_tsI C (tgt := 639) c13 dL_law_33 (by decide) (by decide) (606) (by decide) (by decide) (wl_13 C D hN hcl hsl h i)) (fun c13 => ?_)
  refine wG_if (fun c14 => wG_tsI C (tgt := 682) c14 dL_law_33 (by decide) (by decide) (649) (by decide) (by decide) (wl_14 C D hN hcl hsl h i)) (fun c14 => ?_)
  refine wG_if (fun c15 => wG_tsI C (tgt := 725) c15 dL_law_33 (by decide) (by decide) (692) (by decide) (by decide) (wl_15 C D hN hcl hsl h i)) (fun c15 => ?_)
  refine wG_if (fun c16 => wG_tsI C (tgt := 768) c16 dL_law_33 (by decide) (by decide) (735) (by decide) (by decide) (wl_16 C D hN hcl hsl h i)) (fun c16 => ?_)
  refine wG_if (fun c17 => wG_tsI C (tgt := 831) c17 dL_law_33 (by decide) (by decide) (798) (by decide) (by decide) (wl_17 C D hN hcl hsl h i)) (fun c17 => ?_)
  refine wG_if (fun c18 => wG_tsI C (tgt := 894) c18 dL_law_33 (by decide) (by decide) (861) (by decide) (by decide) (wl_18 C D hN hcl hsl h i)) (fun c18 => ?_)
  refine wG_if (fun c19 => wG_tsI C (tgt := 937) c19 dL_law_33 (by decide) (by decide) (904) (by decide) (by decide) (wl_19 C D hN hcl hsl h i)) (fun c19 => ?_)
  refine wG_if (fun c20 => wG_tsI C (tgt := 950) c20 dL_law_33 (by decide) (by decide) (917) (by decide) (by decide) (wl_20 C D hN hcl hsl h i)) (fun c20 => ?_)
  refine wG_if (fun c21 => wG_tsI C (tgt := 963) c21 dL_law_33 (by decide) (by decide) (930) (by decide) (by decide) (wl_21 C D hN hcl hsl h i)) (fun c21 => ?_)
  refine wG_if (fun c22 => wG_tsI C (tgt := 976) c22 dL_law_33 (by decide) (by decide) (943) (by decide) (by decide) (wl_22 C D hN hcl hsl h i)) (fun c22 => ?_)
  refine wG_if (fun c23 => wG_tsI C (tgt := 999) c23 dL_law_33 (by decide) (by decide) (966) (by decide) (by decide) (wl_23 C D hN hcl hsl h i)) (fun c23 => ?_)
  refine wG_if (fun c24 => wG_tsI C (tgt := 1022) c24 dL_law_33 (by decide) (by decide) (989) (by decide) (by decide) (wl_24 C D hN hcl hsl h i)) (fun c24 => ?_)
  refine wG_if (fun c25 => wG_tsI C (tgt := 1035) c25 dL_law_33 (by decide) (by decide) (1002) (by decide) (by decide) (wl_25 C D hN hcl hsl h i)) (fun c25 => ?_)
  refine wG_if (fun c26 => wG_tsI C (tgt := 1048) c26 dL_law_33 (by decide) (by decide) (1015) (by decide) (by decide) (wl_26 C D hN hcl hsl h i)) (fun c26 => ?_)
  refine wG_if (fun c27 => wG_tsI C (tgt := 1081) c27 dL_law_33 (by decide) (by decide) (1048) (by decide) (by decide) (wl_27 C D hN hcl hsl h i)) (fun c27 => ?_)
  refine wG_if (fun c28 => wG_tsI C (tgt := 1141) c28 dL_law_33 (by decide) (by decide) (1108) (by decide) (by decide) (wl_28 C D hN hcl hsl h i)) (fun c28 => ?_)
  refine wG_if (fun c29 => wG_tsI C (tgt := 1164) c29 dL_law_33 (by decide) (by decide) (1131) (by decide) (by decide) (wl_29 C D hN hcl hsl h i)) (fun c29 => ?_)
  refine wG_if (fun c30 => wG_tsI C (tgt := 1187) c30 dL_law_33 (by decide) (by decide) (1154) (by decide) (by decide) (wl_30 C D hN hcl hsl h i)) (fun c30 => ?_)
  refine wG_if (fun c31 => wG_tsI C (tgt := 1210) c31 dL_law_33 (by decide) (by decide) (1177) (by decide) (by decide) (wl_31 C D hN hcl hsl h i)) (fun c31 => ?_)
  refine wG_if (fun c32 => wG_tsI C (tgt := 1223) c32 dL_law_33 (by decide) (by decide) (1190) (by decide) (by decide) (wl_32 C D hN hcl hsl h i)) (fun c32 => ?_)
  refine wG_if (fun c33 => wG_tsI C (tgt := 1272) c33 dL_law_33 (by decide) (by decide) (1239) (by decide) (by decide) (wl_33 C D hN hcl hsl h i)) (fun c33 => ?_)
  refine wG_if (fun c34 => wG_tsI C (tgt := 1322) c34 dL_law_33 (by decide) (by decide) (1289) (by decide) (by decide) (wl_34 C D hN hcl hsl h i)) (fun c34 => ?_)
  refine wG_if (fun c35 => wG_tsI C (tgt := 1335) c35 dL_law_33 (by decide) (by decide) (1302) (by decide) (by decide) (wl_35 C D hN hcl hsl h i)) (fun c35 => ?_)
  refine wG_if (fun c36 => wG_tsI C (tgt := 1368) c36 dL_law_33 (by decide) (by decide) (1335) (by decide) (by decide) (wl_36 C D hN hcl hsl h i)) (fun c36 => ?_)
  refine wG_if (fun c37 => wG_tsI C (tgt := 1381) c37 dL_law_33 (by decide) (by decide) (1348) (by decide) (by decide) (wl_37 C D hN hcl hsl h i)) (fun c37 => ?_)
  refine wG_if (fun c38 => wG_tsI C (tgt := 1404) c38 dL_law_33 (by decide) (by decide) (1371) (by decide) (by decide) (wl_38 C D hN hcl hsl h i)) (fun c38 => ?_)
  refine wG_if (fun c39 => wG_tsI C (tgt := 1427) c39 dL_law_33 (by decide) (by decide) (1394) (by decide) (by decide) (wl_39 C D hN hcl hsl h i)) (fun c39 => ?_)
  refine wG_tsO C (tgt := 1450) (by have e0 := lv_neT (a := 0) c0 rfl; have e1 := lv_neT (a := 1) c1 rfl; have e2 := lv_neT (a := 2) c2 rfl; have e3 := lv_neT (a := 3) c3 rfl; have e4 := lv_neT (a := 4) c4 rfl; have e5 := lv_neT (a := 5) c5 rfl; have e6 := lv_neT (a := 6) c6 rfl; have e7 := lv_neT (a := 7) c7 rfl; have e8 := lv_neT (a := 8) c8 rfl; have e9 := lv_neT (a := 9) c9 rfl; have e10 := lv_neT (a := 10) c10 rfl; have e11 := lv_neT (a := 11) c11 rfl; have e12 := lv_neT (a := 12) c12 rfl; have e13 := lv_neT (a := 13) c13 rfl; have e14 := lv_neT (a := 14) c14 rfl; have e15 := lv_neT (a := 15) c15 rfl; have e16 := lv_neT (a := 16) c16 rfl; have e17 := lv_neT (a := 17) c17 rfl; have e18 := lv_neT (a := 18) c18 rfl; have e19 := lv_neT (a := 19) c19 rfl; have e20 := lv_neT (a := 20) c20 rfl; have e21 := lv_neT (a := 21) c21 rfl; have e22 := lv_neT (a := 22) c22 rfl; have e23 := lv_neT (a := 23) c23 rfl; have e24 := lv_neT (a := 24) c24 rfl; have e25 := lv_neT (a := 25) c25 rfl; have e26 := lv_neT (a := 26) c26 rfl; have e27 := lv_neT (a := 27) c27 rfl; have e28 := lv_neT (a := 28) c28 rfl; have e29 := lv_neT (a := 29) c29 rfl; have e30 := lv_neT (a := 30) c30 rfl; have e31 := lv_neT (a := 31) c31 rfl; have e32 := lv_neT (a := 32) c32 rfl; have e33 := lv_neT (a := 33) c33 rfl; have e34 := lv_neT (a := 34) c34 rfl; have e35 := lv_neT (a := 35) c35 rfl; have e36 := lv_neT (a := 36) c36 rfl; have e37 := lv_neT (a := 37) c37 rfl; have e38 := lv_neT (a := 38) c38 rfl; have e39 := lv_neT (a := 39) c39 rfl; omega) dL_law_33 (by decide) ?_
  exact wG_exit (fun Q e => gQ_wide (by omega) (by omega) (gQ_lv [0, 1, 2, 3] rfl e))
