set_option maxRecDepth 100000 in
theorem m_0 : Cond.selects RX12 yX12_readForm yX12_readForm ∈ BIG := bt0 (i := 0) (Eq.refl _) rfl
set_option maxRecDepth 100000 in
theorem m_1 : Cond.selects RX12 yX12_begin yX12_begin ∈ BIG := bt0 (i := 1) (Eq.refl _) rfl
set_option maxRecDepth 100000 in
theorem m_2 : Cond.selects RX12 yX12_noStand yX12_noStand ∈ BIG := bt0 (i := 2) (Eq.refl _) rfl
set_option maxRecDepth 100000 in
theorem m_3 : Cond.selects RX12 yX12_noPiece yX12_noPiece ∈ BIG := bt0 (i := 3) (Eq.refl _) rfl
set_option maxRecDepth 100000 in
theorem m_4 : Cond.selects RX12 yX12_makeCut yX12_makeCut ∈ BIG := bt0 (i := 4) (Eq.refl _) rfl
set_option maxRecDepth 100000 in
theorem m_5 : Cond.selects RX12 yX12_offAhead yX12_offAhead ∈ BIG := bt0 (i := 5) (Eq.refl _) rfl
set_option maxRecDepth 100000 in
theorem m_6 : Cond.selects RX12 yX12_weightOf yX12_weightOf ∈ BIG := bt0 (i := 6) (Eq.refl _) rfl
set_option maxRecDepth 100000 in
theorem m_7 : Cond.selects RX12 yX12_driedAhead yX12_driedAhead ∈ BIG := bt0 (i := 7) (Eq.refl _) rfl
set_option maxRecDepth 100000 in
theorem m_8 : Cond.selects RX12 yX12_countOf yX12_countOf ∈ BIG := bt0 (i := 8) (Eq.refl _) rfl
set_option maxRecDepth 100000 in
theorem m_9 : Cond.selects RX12 yX12_edges yX12_edges ∈ BIG := bt0 (i := 9) (Eq.refl _) rfl
set_option maxRecDepth 100000 in
theorem m_10 : Cond.selects RX12 yX12_face yX12_face ∈ BIG := bt0 (i := 10) (Eq.refl _) rfl
set_option maxRecDepth 100000 in
theorem m_11 : Cond.selects RX12 yX12_allDried yX12_allDried ∈ BIG := bt0 (i := 11) (Eq.refl _) rfl
set_option maxRecDepth 100000 in
theorem m_12 : Cond.selects RX12 yX12_isEnd yX12_isEnd ∈ BIG := bt0 (i := 12) (Eq.refl _) rfl
set_option maxRecDepth 100000 in
theorem m_13 : Cond.selects RX12 yX12_weighsOf yX12_weighsOf ∈ BIG := bt0 (i := 13) (Eq.refl _) rfl
set_option maxRecDepth 100000 in
theorem m_14 : Cond.selects RX12 yX12_isServed yX12_isServed ∈ BIG := bt0 (i := 14) (Eq.refl _) rfl
set_option maxRecDepth 100000 in
theorem m_15 : Cond.selects RX12 yX12_standsFor yX12_standsFor ∈ BIG := bt0 (i := 15) (Eq.refl _) rfl
set_option maxRecDepth 100000 in
theorem m_16 : Cond.selects RX12 yX12_findCut yX12_findCut ∈ BIG := bt0 (i := 16) (Eq.refl _) rfl
set_option maxRecDepth 100000 in
theorem m_17 : Cond.selects RX12 yX12_isPart yX12_isPart ∈ BIG := bt0 (i := 17) (Eq.refl _) rfl
set_option maxRecDepth 100000 in
theorem m_18 : Cond.selects RX12 yX12_layPart yX12_layPart ∈ BIG := bt0 (i := 18) (Eq.refl _) rfl
set_option maxRecDepth 100000 in
theorem m_19 : Cond.selects RX12 yX12_make yX12_make ∈ BIG := bt0 (i := 19) (Eq.refl _) rfl
set_option maxRecDepth 100000 in
theorem m_20 : Cond.selects RX12 yX12_findTwo yX12_findTwo ∈ BIG := bt0 (i := 20) (Eq.refl _) rfl
set_option maxRecDepth 100000 in
theorem m_21 : Cond.selects RX12 yX12_putAside yX12_putAside ∈ BIG := bt0 (i := 21) (Eq.refl _) rfl
set_option maxRecDepth 100000 in
theorem m_22 : Cond.selects RX12 yX12_second yX12_second ∈ BIG := bt0 (i := 22) (Eq.refl _) rfl
set_option maxRecDepth 100000 in
theorem m_23 : Cond.selects RX12 yX12_keepTwo yX12_keepTwo ∈ BIG := bt0 (i := 23) (Eq.refl _) rfl
set_option maxRecDepth 100000 in
theorem m_24 : Cond.selects RX12 yX12_takeBack yX12_takeBack ∈ BIG := bt0 (i := 24) (Eq.refl _) rfl
set_option maxRecDepth 100000 in
theorem m_25 : Cond.selects RX12 yX12_wholeWire yX12_wholeWire ∈ BIG := bt0 (i := 25) (Eq.refl _) rfl
set_option maxRecDepth 100000 in
theorem m_26 : Cond.selects RX12 yX12_layWires yX12_layWires ∈ BIG := bt0 (i := 26) (Eq.refl _) rfl
set_option maxRecDepth 100000 in
theorem m_27 : Cond.selects RX12 yX12_layBlocks yX12_layBlocks ∈ BIG := bt0 (i := 27) (Eq.refl _) rfl
set_option maxRecDepth 100000 in
theorem m_28 : Cond.selects RX12 yX12_isAsk yX12_isAsk ∈ BIG := bt0 (i := 28) (Eq.refl _) rfl
set_option maxRecDepth 100000 in
theorem m_29 : Cond.selects RX12 yX12_bestWire yX12_bestWire ∈ BIG := bt0 (i := 29) (Eq.refl _) rfl
set_option maxRecDepth 100000 in
theorem m_30 : Cond.selects RX12 yX12_bestOf yX12_bestOf ∈ BIG := bt0 (i := 30) (Eq.refl _) rfl
set_option maxRecDepth 100000 in
theorem m_31 : Cond.selects RX12 yX12_goesThrough yX12_goesThrough ∈ BIG := bt0 (i := 31) (Eq.refl _) rfl
set_option maxRecDepth 100000 in
theorem m_32 : Cond.selects RX12 yX12_noBlock yX12_noBlock ∈ BIG := bt0 (i := 32) (Eq.refl _) rfl
set_option maxRecDepth 100000 in
theorem m_33 : Cond.selects RX12 yX12_paste yX12_paste ∈ BIG := bt0 (i := 33) (Eq.refl _) rfl
set_option maxRecDepth 100000 in
theorem m_34 : Cond.selects RX12 yX12_ripeIn yX12_ripeIn ∈ BIG := bt0 (i := 34) (Eq.refl _) rfl
set_option maxRecDepth 100000 in
theorem m_35 : Cond.selects RX12 yX12_isRipe yX12_isRipe ∈ BIG := bt0 (i := 35) (Eq.refl _) rfl
set_option maxRecDepth 100000 in
theorem m_36 : Cond.selects RX12 yX12_earns yX12_earns ∈ BIG := bt0 (i := 36) (Eq.refl _) rfl
set_option maxRecDepth 100000 in
theorem m_37 : Cond.selects RX12 yX12_gain yX12_gain ∈ BIG := bt0 (i := 37) (Eq.refl _) rfl
set_option maxRecDepth 100000 in
theorem m_38 : Cond.selects RX12 yX12_standing yX12_standing ∈ BIG := bt0 (i := 38) (Eq.refl _) rfl
set_option maxRecDepth 100000 in
theorem m_39 : Cond.initialized RL ∈ BIG := bt1 (i := 0) (Eq.refl _) rfl
set_option maxRecDepth 100000 in
theorem m_40 : Cond.initialized RX11 ∈ BIG := bt1 (i := 1) (Eq.refl _) rfl
set_option maxRecDepth 100000 in
theorem m_41 : Cond.initialized RX10 ∈ BIG := bt1 (i := 2) (Eq.refl _) rfl
set_option maxRecDepth 100000 in
theorem m_42 : Cond.initialized RX4 ∈ BIG := bt1 (i := 3) (Eq.refl _) rfl
set_option maxRecDepth 100000 in
theorem m_43 : Cond.initialized RX1 ∈ BIG := bt1 (i := 4) (Eq.refl _) rfl
set_option maxRecDepth 100000 in
theorem m_44 : Cond.initialized RX7 ∈ BIG := bt1 (i := 5) (Eq.refl _) rfl
set_option maxRecDepth 100000 in
theorem m_45 : Cond.initialized RX9 ∈ BIG := bt1 (i := 6) (Eq.refl _) rfl
set_option maxRecDepth 100000 in
theorem m_46 : Cond.initialized RX8 ∈ BIG := bt1 (i := 7) (Eq.refl _) rfl
set_option maxRecDepth 100000 in
theorem m_47 : Cond.initialized RX6 ∈ BIG := bt1 (i := 8) (Eq.refl _) rfl
set_option maxRecDepth 100000 in
theorem m_48 : Cond.initialized RJ9 ∈ BIG := bt1 (i := 9) (Eq.refl _) rfl
set_option maxRecDepth 100000 in
theorem m_49 : Cond.initialized RX3 ∈ BIG := bt1 (i := 10) (Eq.refl _) rfl
set_option maxRecDepth 100000 in
theorem m_50 : Cond.initialized RX5 ∈ BIG := bt1 (i := 11) (Eq.refl _) rfl
set_option maxRecDepth 100000 in
theorem m_51 : Cond.initialized RX2 ∈ BIG := bt1 (i := 12) (Eq.refl _) rfl
set_option maxRecDepth 100000 in
theorem m_52 : Cond.initialized RX12 ∈ BIG := bt1 (i := 13) (Eq.refl _) rfl
set_option maxRecDepth 100000 in
theorem m_53 : Cond.initialized RX0 ∈ BIG := bt1 (i := 14) (Eq.refl _) rfl
set_option maxRecDepth 100000 in
theorem m_54 : Cond.classLink RL 7 RX11 ∈ BIG := bt1 (i := 15) (Eq.refl _) rfl
set_option maxRecDepth 100000 in
theorem m_55 : Cond.instantiable RX11 11 ∈ BIG := bt1 (i := 16) (Eq.refl _) rfl
set_option maxRecDepth 100000 in
theorem m_56 : Cond.methodLink RL 9 yX11_init ∈ BIG := bt1 (i := 17) (Eq.refl _) rfl
set_option maxRecDepth 100000 in
theorem m_57 : Cond.instanceMethod yX11_init ∈ BIG := bt1 (i := 18) (Eq.refl _) rfl
set_option maxRecDepth 100000 in
theorem m_58 : Cond.code yX11_init cX11_init 2 none ∈ BIG := bt1 (i := 19) (Eq.refl _) rfl
set_option maxRecDepth 100000 in
theorem m_59 : Cond.methodLink RX11 3 Lib.objectInit ∈ BIG := bt1 (i := 20) (Eq.refl _) rfl
set_option maxRecDepth 100000 in
theorem m_60 : Cond.instanceMethod Lib.objectInit ∈ BIG := bt1 (i := 21) (Eq.refl _) rfl
set_option maxRecDepth 100000 in
theorem m_61 : Cond.code Lib.objectInit ⟨#[0xb1]⟩ 1 none ∈ BIG := bt1 (i := 22) (Eq.refl _) rfl
set_option maxRecDepth 100000 in
theorem m_62 : Cond.classLink RX11 9 RX10 ∈ BIG := bt1 (i := 23) (Eq.refl _) rfl
set_option maxRecDepth 100000 in
theorem m_63 : Cond.instantiable RX10 2 ∈ BIG := bt1 (i := 24) (Eq.refl _) rfl
set_option maxRecDepth 100000 in
theorem m_65 : Cond.instanceMethod yX10_init ∈ BIG := bt1 (i := 26) (Eq.refl _) rfl
set_option maxRecDepth 100000 in
theorem m_66 : Cond.code yX10_init cX10_init 1 none ∈ BIG := bt1 (i := 27) (Eq.refl _) rfl
set_option maxRecDepth 100000 in
theorem m_67 : Cond.methodLink RX10 3 Lib.objectInit ∈ BIG := bt1 (i := 28) (Eq.refl _) rfl
set_option maxRecDepth 100000 in
theorem m_68 : Cond.fieldLink RX10 9 "WheelAndWire$Text" "bytes" "[I" ∈ BIG := bt1 (i := 29) (Eq.refl _) rfl
set_option maxRecDepth 100000 in
theorem m_69 : Cond.fieldLink RX4 42 "WheelAndWire$Text" "bytes" "[I" ∈ BIG := bt1 (i := 30) (Eq.refl _) rfl
set_option maxRecDepth 100000 in
theorem m_70 : Cond.fieldLink RX4 37 "WheelAndWire$Text" "length" "I" ∈ BIG := bt1 (i := 31) (Eq.refl _) rfl
set_option maxRecDepth 100000 in
theorem m_71 : Cond.fieldLink RX10 15 "WheelAndWire$Text" "length" "I" ∈ BIG := bt1 (i := 32) (Eq.refl _) rfl
set_option maxRecDepth 100000 in
theorem m_72 : Cond.fieldLink RX11 80 "WheelAndWire$Text" "length" "I" ∈ BIG := bt1 (i := 33) (Eq.refl _) rfl
set_option maxRecDepth 100000 in
theorem m_78 : Cond.arrayClass .int ∈ BIG := bt1 (i := 39) (Eq.refl _) rfl
set_option maxRecDepth 100000 in
theorem m_79 : Cond.classLink RX11 16 RX4 ∈ BIG := bt1 (i := 40) (Eq.refl _) rfl
set_option maxRecDepth 100000 in
theorem m_80 : Cond.instantiable RX4 7 ∈ BIG := bt1 (i := 41) (Eq.refl _) rfl
set_option maxRecDepth 100000 in
theorem m_81 : Cond.methodLink RX11 18 yX4_init ∈ BIG := bt1 (i := 42) (Eq.refl _) rfl
set_option maxRecDepth 100000 in
theorem m_82 : Cond.instanceMethod yX4_init ∈ BIG := bt1 (i := 43) (Eq.refl _) rfl
set_option maxRecDepth 100000 in
theorem m_83 : Cond.code yX4_init cX4_init 1 none ∈ BIG := bt1 (i := 44) (Eq.refl _) rfl
set_option maxRecDepth 100000 in
theorem m_84 : Cond.methodLink RX4 3 Lib.objectInit ∈ BIG := bt1 (i := 45) (Eq.refl _) rfl
set_option maxRecDepth 100000 in
theorem m_85 : Cond.methodLink RX4 34 yX4_addUp ∈ BIG := bt1 (i := 46) (Eq.refl _) rfl
set_option maxRecDepth 100000 in
theorem m_86 : Cond.instanceMethod yX4_addUp ∈ BIG := bt1 (i := 47) (Eq.refl _) rfl
set_option maxRecDepth 100000 in
theorem m_87 : Cond.selects RX4 yX4_addUp yX4_addUp ∈ BIG := bt1 (i := 48) (Eq.refl _) rfl
set_option maxRecDepth 100000 in
theorem m_88 : Cond.code yX4_addUp cX4_addUp 4 none ∈ BIG := bt1 (i := 49) (Eq.refl _) rfl
set_option maxRecDepth 100000 in
theorem m_89 : Cond.methodLink RX4 49 yX4_kindAt ∈ BIG := bt1 (i := 50) (Eq.refl _) rfl
set_option maxRecDepth 100000 in
theorem m_90 : Cond.instanceMethod yX4_kindAt ∈ BIG := bt1 (i := 51) (Eq.refl _) rfl
set_option maxRecDepth 100000 in
theorem m_91 : Cond.selects RX4 yX4_kindAt yX4_kindAt ∈ BIG := bt1 (i := 52) (Eq.refl _) rfl
set_option maxRecDepth 100000 in
theorem m_92 : Cond.code yX4_kindAt cX4_kindAt 4 (some .int) ∈ BIG := bt1 (i := 53) (Eq.refl _) rfl
set_option maxRecDepth 100000 in
theorem m_95 : Cond.methodLink RX4 56 yX4_addPlace ∈ BIG := bt1 (i := 56) (Eq.refl _) rfl
set_option maxRecDepth 100000 in
theorem m_96 : Cond.static yX4_addPlace ∈ BIG := bt1 (i := 57) (Eq.refl _) rfl
set_option maxRecDepth 100000 in
theorem m_97 : Cond.code yX4_addPlace cX4_addPlace 5 none ∈ BIG := bt1 (i := 58) (Eq.refl _) rfl
set_option maxRecDepth 100000 in
theorem m_98 : Cond.fieldLink RX4 9 "WheelAndWire$Form" "kinds" "[I" ∈ BIG := bt1 (i := 59) (Eq.refl _) rfl
set_option maxRecDepth 100000 in
theorem m_99 : Cond.fieldLink RX4 15 "WheelAndWire$Form" "weightSums" "[I" ∈ BIG := bt1 (i := 60) (Eq.refl _) rfl
set_option maxRecDepth 100000 in
theorem m_100 : Cond.fieldLink RX4 18 "WheelAndWire$Form" "rindSums" "[I" ∈ BIG := bt1 (i := 61) (Eq.refl _) rfl
set_option maxRecDepth 100000 in
theorem m_101 : Cond.fieldLink RX4 21 "WheelAndWire$Form" "rows" "I" ∈ BIG := bt1 (i := 62) (Eq.refl _) rfl
set_option maxRecDepth 100000 in
theorem m_102 : Cond.fieldLink RX3 19 "WheelAndWire$Form" "rows" "I" ∈ BIG := bt1 (i := 63) (Eq.refl _) rfl
set_option maxRecDepth 100000 in
theorem m_103 : Cond.fieldLink RX7 18 "WheelAndWire$Form" "rows" "I" ∈ BIG := bt1 (i := 64) (Eq.refl _) rfl
set_option maxRecDepth 100000 in
theorem m_104 : Cond.fieldLink RX8 29 "WheelAndWire$Form" "rows" "I" ∈ BIG := bt1 (i := 65) (Eq.refl _) rfl
set_option maxRecDepth 100000 in
theorem m_105 : Cond.fieldLink RX11 108 "WheelAndWire$Form" "rows" "I" ∈ BIG := bt1 (i := 66) (Eq.refl _) rfl
set_option maxRecDepth 100000 in
theorem m_106 : Cond.fieldLink RX6 53 "WheelAndWire$Form" "rows" "I" ∈ BIG := bt1 (i := 67) (Eq.refl _) rfl
set_option maxRecDepth 100000 in
theorem m_107 : Cond.fieldLink RX4 25 "WheelAndWire$Form" "columns" "I" ∈ BIG := bt1 (i := 68) (Eq.refl _) rfl
set_option maxRecDepth 100000 in
theorem m_108 : Cond.fieldLink RX3 24 "WheelAndWire$Form" "columns" "I" ∈ BIG := bt1 (i := 69) (Eq.refl _) rfl
set_option maxRecDepth 100000 in
theorem m_109 : Cond.fieldLink RX7 24 "WheelAndWire$Form" "columns" "I" ∈ BIG := bt1 (i := 70) (Eq.refl _) rfl
set_option maxRecDepth 100000 in
theorem m_110 : Cond.fieldLink RX8 34 "WheelAndWire$Form" "columns" "I" ∈ BIG := bt1 (i := 71) (Eq.refl _) rfl
set_option maxRecDepth 100000 in
theorem m_111 : Cond.fieldLink RX11 111 "WheelAndWire$Form" "columns" "I" ∈ BIG := bt1 (i := 72) (Eq.refl _) rfl
set_option maxRecDepth 100000 in
theorem m_112 : Cond.fieldLink RX6 58 "WheelAndWire$Form" "columns" "I" ∈ BIG := bt1 (i := 73) (Eq.refl _) rfl
set_option maxRecDepth 100000 in
theorem m_113 : Cond.fieldLink RX4 28 "WheelAndWire$Form" "ripeFrom" "I" ∈ BIG := bt1 (i := 74) (Eq.refl _) rfl
set_option maxRecDepth 100000 in
theorem m_114 : Cond.fieldLink RX11 245 "WheelAndWire$Form" "ripeFrom" "I" ∈ BIG := bt1 (i := 75) (Eq.refl _) rfl
set_option maxRecDepth 100000 in
theorem m_115 : Cond.fieldLink RX4 31 "WheelAndWire$Form" "ripeFor" "I" ∈ BIG := bt1 (i := 76) (Eq.refl _) rfl
set_option maxRecDepth 100000 in
theorem m_116 : Cond.fieldLink RX11 248 "WheelAndWire$Form" "ripeFor" "I" ∈ BIG := bt1 (i := 77) (Eq.refl _) rfl
set_option maxRecDepth 100000 in
theorem m_132 : Cond.classLink RX11 23 RX1 ∈ BIG := bt1 (i := 93) (Eq.refl _) rfl
set_option maxRecDepth 100000 in
theorem m_133 : Cond.instantiable RX1 6 ∈ BIG := bt1 (i := 94) (Eq.refl _) rfl
set_option maxRecDepth 100000 in
theorem m_134 : Cond.methodLink RX11 25 yX1_init ∈ BIG := bt1 (i := 95) (Eq.refl _) rfl
set_option maxRecDepth 100000 in
theorem m_135 : Cond.instanceMethod yX1_init ∈ BIG := bt1 (i := 96) (Eq.refl _) rfl
set_option maxRecDepth 100000 in
theorem m_136 : Cond.code yX1_init cX1_init 3 none ∈ BIG := bt1 (i := 97) (Eq.refl _) rfl
set_option maxRecDepth 100000 in
theorem m_137 : Cond.methodLink RX1 3 Lib.objectInit ∈ BIG := bt1 (i := 98) (Eq.refl _) rfl
set_option maxRecDepth 100000 in
theorem m_138 : Cond.classLink RX1 9 RX7 ∈ BIG := bt1 (i := 99) (Eq.refl _) rfl
set_option maxRecDepth 100000 in
theorem m_140 : Cond.instantiable RX7 13 ∈ BIG := bt1 (i := 101) (Eq.refl _) rfl
set_option maxRecDepth 100000 in
theorem m_142 : Cond.instanceMethod yX7_init ∈ BIG := bt1 (i := 103) (Eq.refl _) rfl
set_option maxRecDepth 100000 in
theorem m_143 : Cond.code yX7_init cX7_init 1 none ∈ BIG := bt1 (i := 104) (Eq.refl _) rfl
set_option maxRecDepth 100000 in
theorem m_144 : Cond.methodLink RX7 3 Lib.objectInit ∈ BIG := bt1 (i := 105) (Eq.refl _) rfl
set_option maxRecDepth 100000 in
theorem m_145 : Cond.fieldLink RX7 9 "WheelAndWire$Piece" "row" "I" ∈ BIG := bt1 (i := 106) (Eq.refl _) rfl
set_option maxRecDepth 100000 in
theorem m_146 : Cond.fieldLink RX7 15 "WheelAndWire$Piece" "column" "I" ∈ BIG := bt1 (i := 107) (Eq.refl _) rfl
set_option maxRecDepth 100000 in
theorem m_147 : Cond.fieldLink RX7 23 "WheelAndWire$Piece" "rows" "I" ∈ BIG := bt1 (i := 108) (Eq.refl _) rfl
set_option maxRecDepth 100000 in
theorem m_148 : Cond.fieldLink RX11 130 "WheelAndWire$Piece" "rows" "I" ∈ BIG := bt1 (i := 109) (Eq.refl _) rfl
set_option maxRecDepth 100000 in
theorem m_149 : Cond.fieldLink RX7 27 "WheelAndWire$Piece" "columns" "I" ∈ BIG := bt1 (i := 110) (Eq.refl _) rfl
set_option maxRecDepth 100000 in
theorem m_150 : Cond.fieldLink RX11 133 "WheelAndWire$Piece" "columns" "I" ∈ BIG := bt1 (i := 111) (Eq.refl _) rfl
set_option maxRecDepth 100000 in
theorem m_151 : Cond.fieldLink RX7 32 "WheelAndWire$Piece" "placesWeight" "I" ∈ BIG := bt1 (i := 112) (Eq.refl _) rfl
set_option maxRecDepth 100000 in
theorem m_152 : Cond.fieldLink RX7 38 "WheelAndWire$Piece" "rind" "I" ∈ BIG := bt1 (i := 113) (Eq.refl _) rfl
set_option maxRecDepth 100000 in
theorem m_153 : Cond.fieldLink RX0 29 "WheelAndWire$Piece" "rind" "I" ∈ BIG := bt1 (i := 114) (Eq.refl _) rfl
set_option maxRecDepth 100000 in
theorem m_154 : Cond.fieldLink RX11 147 "WheelAndWire$Piece" "rind" "I" ∈ BIG := bt1 (i := 115) (Eq.refl _) rfl
set_option maxRecDepth 100000 in
theorem m_155 : Cond.fieldLink RX7 41 "WheelAndWire$Piece" "state" "I" ∈ BIG := bt1 (i := 116) (Eq.refl _) rfl
set_option maxRecDepth 100000 in
theorem m_156 : Cond.fieldLink RX0 21 "WheelAndWire$Piece" "state" "I" ∈ BIG := bt1 (i := 117) (Eq.refl _) rfl
set_option maxRecDepth 100000 in
theorem m_157 : Cond.fieldLink RX1 48 "WheelAndWire$Piece" "state" "I" ∈ BIG := bt1 (i := 118) (Eq.refl _) rfl
set_option maxRecDepth 100000 in
theorem m_158 : Cond.fieldLink RX11 144 "WheelAndWire$Piece" "state" "I" ∈ BIG := bt1 (i := 119) (Eq.refl _) rfl
set_option maxRecDepth 100000 in
theorem m_159 : Cond.fieldLink RX7 44 "WheelAndWire$Piece" "wrapping" "I" ∈ BIG := bt1 (i := 120) (Eq.refl _) rfl
set_option maxRecDepth 100000 in
theorem m_160 : Cond.fieldLink RX11 160 "WheelAndWire$Piece" "wrapping" "I" ∈ BIG := bt1 (i := 121) (Eq.refl _) rfl
set_option maxRecDepth 100000 in
theorem m_161 : Cond.fieldLink RX7 47 "WheelAndWire$Piece" "off" "I" ∈ BIG := bt1 (i := 122) (Eq.refl _) rfl
set_option maxRecDepth 100000 in
theorem m_162 : Cond.fieldLink RX11 157 "WheelAndWire$Piece" "off" "I" ∈ BIG := bt1 (i := 123) (Eq.refl _) rfl
set_option maxRecDepth 100000 in
theorem m_163 : Cond.fieldLink RX7 53 "WheelAndWire$Piece" "driedAbove" "I" ∈ BIG := bt1 (i := 124) (Eq.refl _) rfl
set_option maxRecDepth 100000 in
theorem m_164 : Cond.fieldLink RX7 56 "WheelAndWire$Piece" "driedBelow" "I" ∈ BIG := bt1 (i := 125) (Eq.refl _) rfl
set_option maxRecDepth 100000 in
theorem m_165 : Cond.fieldLink RX7 59 "WheelAndWire$Piece" "driedLeft" "I" ∈ BIG := bt1 (i := 126) (Eq.refl _) rfl
set_option maxRecDepth 100000 in
theorem m_166 : Cond.fieldLink RX7 62 "WheelAndWire$Piece" "driedRight" "I" ∈ BIG := bt1 (i := 127) (Eq.refl _) rfl
set_option maxRecDepth 100000 in
theorem m_194 : Cond.methodLink RX1 26 yX1_startAnew ∈ BIG := bt1 (i := 155) (Eq.refl _) rfl
set_option maxRecDepth 100000 in
theorem m_195 : Cond.instanceMethod yX1_startAnew ∈ BIG := bt1 (i := 156) (Eq.refl _) rfl
set_option maxRecDepth 100000 in
theorem m_196 : Cond.selects RX1 yX1_startAnew yX1_startAnew ∈ BIG := bt1 (i := 157) (Eq.refl _) rfl
set_option maxRecDepth 100000 in
theorem m_197 : Cond.code yX1_startAnew cX1_startAnew 1 none ∈ BIG := bt1 (i := 158) (Eq.refl _) rfl
set_option maxRecDepth 100000 in
theorem m_198 : Cond.methodLink RX1 29 yX7_becomeAll ∈ BIG := bt1 (i := 159) (Eq.refl _) rfl
set_option maxRecDepth 100000 in
theorem m_199 : Cond.instanceMethod yX7_becomeAll ∈ BIG := bt1 (i := 160) (Eq.refl _) rfl
set_option maxRecDepth 100000 in
theorem m_200 : Cond.selects RX7 yX7_becomeAll yX7_becomeAll ∈ BIG := bt1 (i := 161) (Eq.refl _) rfl
set_option maxRecDepth 100000 in
theorem m_201 : Cond.code yX7_becomeAll cX7_becomeAll 2 none ∈ BIG := bt1 (i := 162) (Eq.refl _) rfl
set_option maxRecDepth 100000 in
theorem m_202 : Cond.methodLink RX7 28 yX4_weightIn ∈ BIG := bt1 (i := 163) (Eq.refl _) rfl
set_option maxRecDepth 100000 in
theorem m_203 : Cond.instanceMethod yX4_weightIn ∈ BIG := bt1 (i := 164) (Eq.refl _) rfl
set_option maxRecDepth 100000 in
theorem m_204 : Cond.selects RX4 yX4_weightIn yX4_weightIn ∈ BIG := bt1 (i := 165) (Eq.refl _) rfl
set_option maxRecDepth 100000 in
theorem m_205 : Cond.code yX4_weightIn cX4_weightIn 5 (some .int) ∈ BIG := bt1 (i := 166) (Eq.refl _) rfl
set_option maxRecDepth 100000 in
theorem m_206 : Cond.methodLink RX4 60 yX4_sumIn ∈ BIG := bt1 (i := 167) (Eq.refl _) rfl
set_option maxRecDepth 100000 in
theorem m_207 : Cond.instanceMethod yX4_sumIn ∈ BIG := bt1 (i := 168) (Eq.refl _) rfl
set_option maxRecDepth 100000 in
theorem m_208 : Cond.selects RX4 yX4_sumIn yX4_sumIn ∈ BIG := bt1 (i := 169) (Eq.refl _) rfl
set_option maxRecDepth 100000 in
theorem m_209 : Cond.code yX4_sumIn cX4_sumIn 8 (some .int) ∈ BIG := bt1 (i := 170) (Eq.refl _) rfl
set_option maxRecDepth 100000 in
theorem m_210 : Cond.methodLink RX7 35 yX4_rindIn ∈ BIG := bt1 (i := 171) (Eq.refl _) rfl
set_option maxRecDepth 100000 in
theorem m_211 : Cond.instanceMethod yX4_rindIn ∈ BIG := bt1 (i := 172) (Eq.refl _) rfl
set_option maxRecDepth 100000 in
theorem m_212 : Cond.selects RX4 yX4_rindIn yX4_rindIn ∈ BIG := bt1 (i := 173) (Eq.refl _) rfl
set_option maxRecDepth 100000 in
theorem m_213 : Cond.code yX4_rindIn cX4_rindIn 5 (some .int) ∈ BIG := bt1 (i := 174) (Eq.refl _) rfl
set_option maxRecDepth 100000 in
theorem m_214 : Cond.methodLink RX7 50 yX7_dryAnew ∈ BIG := bt1 (i := 175) (Eq.refl _) rfl
set_option maxRecDepth 100000 in
theorem m_215 : Cond.instanceMethod yX7_dryAnew ∈ BIG := bt1 (i := 176) (Eq.refl _) rfl
set_option maxRecDepth 100000 in
theorem m_216 : Cond.selects RX7 yX7_dryAnew yX7_dryAnew ∈ BIG := bt1 (i := 177) (Eq.refl _) rfl
set_option maxRecDepth 100000 in
theorem m_217 : Cond.code yX7_dryAnew cX7_dryAnew 1 none ∈ BIG := bt1 (i := 178) (Eq.refl _) rfl
set_option maxRecDepth 100000 in
theorem m_218 : Cond.fieldLink RX1 22 "WheelAndWire$Board" "form" "LWheelAndWire$Form;" ∈ BIG := bt1 (i := 179) (Eq.refl _) rfl
set_option maxRecDepth 100000 in
theorem m_219 : Cond.fieldLink RX1 11 "WheelAndWire$Board" "pieces" "[LWheelAndWire$Piece;" ∈ BIG := bt1 (i := 180) (Eq.refl _) rfl
set_option maxRecDepth 100000 in
theorem m_220 : Cond.fieldLink RX9 45 "WheelAndWire$Board" "pieces" "[LWheelAndWire$Piece;" ∈ BIG := bt1 (i := 181) (Eq.refl _) rfl
set_option maxRecDepth 100000 in
theorem m_221 : Cond.fieldLink RX11 126 "WheelAndWire$Board" "pieces" "[LWheelAndWire$Piece;" ∈ BIG := bt1 (i := 182) (Eq.refl _) rfl
set_option maxRecDepth 100000 in
theorem m_222 : Cond.fieldLink RX1 18 "WheelAndWire$Board" "spare" "LWheelAndWire$Piece;" ∈ BIG := bt1 (i := 183) (Eq.refl _) rfl
set_option maxRecDepth 100000 in
theorem m_223 : Cond.fieldLink RX9 39 "WheelAndWire$Board" "size" "I" ∈ BIG := bt1 (i := 184) (Eq.refl _) rfl
set_option maxRecDepth 100000 in
theorem m_224 : Cond.fieldLink RX1 33 "WheelAndWire$Board" "size" "I" ∈ BIG := bt1 (i := 185) (Eq.refl _) rfl
set_option maxRecDepth 100000 in
theorem m_225 : Cond.fieldLink RX11 304 "WheelAndWire$Board" "size" "I" ∈ BIG := bt1 (i := 186) (Eq.refl _) rfl
set_option maxRecDepth 100000 in
theorem m_226 : Cond.fieldLink RX1 37 "WheelAndWire$Board" "halfHours" "I" ∈ BIG := bt1 (i := 187) (Eq.refl _) rfl
set_option maxRecDepth 100000 in
theorem m_227 : Cond.fieldLink RX11 170 "WheelAndWire$Board" "halfHours" "I" ∈ BIG := bt1 (i := 188) (Eq.refl _) rfl
set_option maxRecDepth 100000 in
theorem m_228 : Cond.fieldLink RX11 98 "WheelAndWire$Board" "filled" "Z" ∈ BIG := bt1 (i := 189) (Eq.refl _) rfl
set_option maxRecDepth 100000 in
theorem m_243 : Cond.classLink RX11 36 RX9 ∈ BIG := bt1 (i := 204) (Eq.refl _) rfl
set_option maxRecDepth 100000 in
theorem m_244 : Cond.instantiable RX9 9 ∈ BIG := bt1 (i := 205) (Eq.refl _) rfl
set_option maxRecDepth 100000 in
theorem m_245 : Cond.methodLink RX11 38 yX9_init ∈ BIG := bt1 (i := 206) (Eq.refl _) rfl
set_option maxRecDepth 100000 in
theorem m_246 : Cond.instanceMethod yX9_init ∈ BIG := bt1 (i := 207) (Eq.refl _) rfl
set_option maxRecDepth 100000 in
theorem m_247 : Cond.code yX9_init cX9_init 3 none ∈ BIG := bt1 (i := 208) (Eq.refl _) rfl
set_option maxRecDepth 100000 in
theorem m_248 : Cond.methodLink RX9 3 Lib.objectInit ∈ BIG := bt1 (i := 209) (Eq.refl _) rfl
set_option maxRecDepth 100000 in
theorem m_249 : Cond.classLink RX9 9 RX7 ∈ BIG := bt1 (i := 210) (Eq.refl _) rfl
set_option maxRecDepth 100000 in
theorem m_251 : Cond.fieldLink RX9 31 "WheelAndWire$Shop" "form" "LWheelAndWire$Form;" ∈ BIG := bt1 (i := 212) (Eq.refl _) rfl
set_option maxRecDepth 100000 in
theorem m_252 : Cond.fieldLink RX9 35 "WheelAndWire$Shop" "board" "LWheelAndWire$Board;" ∈ BIG := bt1 (i := 213) (Eq.refl _) rfl
set_option maxRecDepth 100000 in
theorem m_253 : Cond.fieldLink RX9 12 "WheelAndWire$Shop" "ahead" "LWheelAndWire$Piece;" ∈ BIG := bt1 (i := 214) (Eq.refl _) rfl
set_option maxRecDepth 100000 in
theorem m_254 : Cond.fieldLink RX9 18 "WheelAndWire$Shop" "behind" "LWheelAndWire$Piece;" ∈ BIG := bt1 (i := 215) (Eq.refl _) rfl
set_option maxRecDepth 100000 in
theorem m_255 : Cond.fieldLink RX9 21 "WheelAndWire$Shop" "laterAhead" "LWheelAndWire$Piece;" ∈ BIG := bt1 (i := 216) (Eq.refl _) rfl
set_option maxRecDepth 100000 in
theorem m_256 : Cond.fieldLink RX9 24 "WheelAndWire$Shop" "laterBehind" "LWheelAndWire$Piece;" ∈ BIG := bt1 (i := 217) (Eq.refl _) rfl
set_option maxRecDepth 100000 in
theorem m_257 : Cond.fieldLink RX9 27 "WheelAndWire$Shop" "laterWires" "[I" ∈ BIG := bt1 (i := 218) (Eq.refl _) rfl
set_option maxRecDepth 100000 in
theorem m_258 : Cond.fieldLink RX9 89 "WheelAndWire$Shop" "twoWire" "I" ∈ BIG := bt1 (i := 219) (Eq.refl _) rfl
set_option maxRecDepth 100000 in
theorem m_259 : Cond.fieldLink RX11 212 "WheelAndWire$Shop" "twoWire" "I" ∈ BIG := bt1 (i := 220) (Eq.refl _) rfl
set_option maxRecDepth 100000 in
theorem m_260 : Cond.fieldLink RX9 92 "WheelAndWire$Shop" "twoWay" "I" ∈ BIG := bt1 (i := 221) (Eq.refl _) rfl
set_option maxRecDepth 100000 in
theorem m_261 : Cond.fieldLink RX11 216 "WheelAndWire$Shop" "twoWay" "I" ∈ BIG := bt1 (i := 222) (Eq.refl _) rfl
set_option maxRecDepth 100000 in
theorem m_281 : Cond.classLink RX11 45 RX6 ∈ BIG := bt2 (i := 2) (Eq.refl _) rfl
set_option maxRecDepth 100000 in
theorem m_282 : Cond.instantiable RX6 7 ∈ BIG := bt2 (i := 3) (Eq.refl _) rfl
set_option maxRecDepth 100000 in
theorem m_283 : Cond.methodLink RX11 47 yX6_init ∈ BIG := bt2 (i := 4) (Eq.refl _) rfl
set_option maxRecDepth 100000 in
theorem m_284 : Cond.instanceMethod yX6_init ∈ BIG := bt2 (i := 5) (Eq.refl _) rfl
set_option maxRecDepth 100000 in
theorem m_285 : Cond.code yX6_init cX6_init 2 none ∈ BIG := bt2 (i := 6) (Eq.refl _) rfl
set_option maxRecDepth 100000 in
theorem m_286 : Cond.methodLink RX6 3 yX8_init ∈ BIG := bt2 (i := 7) (Eq.refl _) rfl
set_option maxRecDepth 100000 in
theorem m_287 : Cond.instanceMethod yX8_init ∈ BIG := bt2 (i := 8) (Eq.refl _) rfl
set_option maxRecDepth 100000 in
theorem m_288 : Cond.code yX8_init cX8_init 3 none ∈ BIG := bt2 (i := 9) (Eq.refl _) rfl
set_option maxRecDepth 100000 in
theorem m_289 : Cond.methodLink RX8 3 Lib.objectInit ∈ BIG := bt2 (i := 10) (Eq.refl _) rfl
set_option maxRecDepth 100000 in
theorem m_290 : Cond.methodLink RX8 15 Lib.Math.max.name ∈ BIG := bt2 (i := 11) (Eq.refl _) rfl
set_option maxRecDepth 100000 in
theorem m_291 : Cond.static Lib.Math.max.name ∈ BIG := bt2 (i := 12) (Eq.refl _) rfl
set_option maxRecDepth 100000 in
theorem m_292 : Cond.code Lib.Math.max.name Lib.Math.max.code 2 (some .int) ∈ BIG := bt2 (i := 13) (Eq.refl _) rfl
set_option maxRecDepth 100000 in
theorem m_293 : Cond.classLink RX6 9 RX0 ∈ BIG := bt2 (i := 14) (Eq.refl _) rfl
set_option maxRecDepth 100000 in
theorem m_295 : Cond.fieldLink RX6 11 "WheelAndWire$OrderPlan" "asks" "[LWheelAndWire$Ask;" ∈ BIG := bt2 (i := 16) (Eq.refl _) rfl
set_option maxRecDepth 100000 in
theorem m_296 : Cond.fieldLink RX6 17 "WheelAndWire$OrderPlan" "leastWeights" "[I" ∈ BIG := bt2 (i := 17) (Eq.refl _) rfl
set_option maxRecDepth 100000 in
theorem m_297 : Cond.fieldLink RX6 21 "WheelAndWire$OrderPlan" "size" "I" ∈ BIG := bt2 (i := 18) (Eq.refl _) rfl
set_option maxRecDepth 100000 in
theorem m_298 : Cond.fieldLink RX11 219 "WheelAndWire$OrderPlan" "size" "I" ∈ BIG := bt2 (i := 19) (Eq.refl _) rfl
set_option maxRecDepth 100000 in
theorem m_299 : Cond.fieldLink RX6 25 "WheelAndWire$OrderPlan" "workedOut" "Z" ∈ BIG := bt2 (i := 20) (Eq.refl _) rfl
set_option maxRecDepth 100000 in
theorem m_300 : Cond.fieldLink RX11 105 "WheelAndWire$OrderPlan" "workedOut" "Z" ∈ BIG := bt2 (i := 21) (Eq.refl _) rfl
set_option maxRecDepth 100000 in
theorem m_301 : Cond.fieldLink RX8 9 "WheelAndWire$Plan" "form" "LWheelAndWire$Form;" ∈ BIG := bt2 (i := 22) (Eq.refl _) rfl
set_option maxRecDepth 100000 in
theorem m_302 : Cond.fieldLink RX3 15 "WheelAndWire$FairPlan" "form" "LWheelAndWire$Form;" ∈ BIG := bt2 (i := 23) (Eq.refl _) rfl
set_option maxRecDepth 100000 in
theorem m_303 : Cond.sameField "WheelAndWire$FairPlan" "WheelAndWire$Plan" "form" "LWheelAndWire$Form;" ∈ BIG := bt2 (i := 24) (Eq.refl _) rfl
set_option maxRecDepth 100000 in
theorem m_304 : Cond.fieldLink RX6 49 "WheelAndWire$OrderPlan" "form" "LWheelAndWire$Form;" ∈ BIG := bt2 (i := 25) (Eq.refl _) rfl
set_option maxRecDepth 100000 in
theorem m_305 : Cond.sameField "WheelAndWire$OrderPlan" "WheelAndWire$Plan" "form" "LWheelAndWire$Form;" ∈ BIG := bt2 (i := 26) (Eq.refl _) rfl
set_option maxRecDepth 100000 in
theorem m_306 : Cond.fieldLink RX8 21 "WheelAndWire$Plan" "wishes" "I" ∈ BIG := bt2 (i := 27) (Eq.refl _) rfl
set_option maxRecDepth 100000 in
theorem m_307 : Cond.fieldLink RX8 25 "WheelAndWire$Plan" "costs" "[I" ∈ BIG := bt2 (i := 28) (Eq.refl _) rfl
set_option maxRecDepth 100000 in
theorem m_323 : Cond.classLink RX11 52 RX3 ∈ BIG := bt2 (i := 44) (Eq.refl _) rfl
set_option maxRecDepth 100000 in
theorem m_324 : Cond.instantiable RX3 5 ∈ BIG := bt2 (i := 45) (Eq.refl _) rfl
set_option maxRecDepth 100000 in
theorem m_325 : Cond.methodLink RX11 54 yX3_init ∈ BIG := bt2 (i := 46) (Eq.refl _) rfl
set_option maxRecDepth 100000 in
theorem m_326 : Cond.instanceMethod yX3_init ∈ BIG := bt2 (i := 47) (Eq.refl _) rfl
set_option maxRecDepth 100000 in
theorem m_327 : Cond.code yX3_init cX3_init 2 none ∈ BIG := bt2 (i := 48) (Eq.refl _) rfl
set_option maxRecDepth 100000 in
theorem m_328 : Cond.methodLink RX3 3 yX8_init ∈ BIG := bt2 (i := 49) (Eq.refl _) rfl
set_option maxRecDepth 100000 in
theorem m_329 : Cond.fieldLink RX3 9 "WheelAndWire$FairPlan" "weightEach" "I" ∈ BIG := bt2 (i := 50) (Eq.refl _) rfl
set_option maxRecDepth 100000 in
theorem m_330 : Cond.fieldLink RX3 35 "WheelAndWire$FairPlan" "rindEach" "I" ∈ BIG := bt2 (i := 51) (Eq.refl _) rfl
set_option maxRecDepth 100000 in
theorem m_339 : Cond.classLink RX11 59 RX5 ∈ BIG := bt2 (i := 60) (Eq.refl _) rfl
set_option maxRecDepth 100000 in
theorem m_340 : Cond.instantiable RX5 9 ∈ BIG := bt2 (i := 61) (Eq.refl _) rfl
set_option maxRecDepth 100000 in
theorem m_341 : Cond.methodLink RX11 61 yX5_init ∈ BIG := bt2 (i := 62) (Eq.refl _) rfl
set_option maxRecDepth 100000 in
theorem m_342 : Cond.instanceMethod yX5_init ∈ BIG := bt2 (i := 63) (Eq.refl _) rfl
set_option maxRecDepth 100000 in
theorem m_343 : Cond.code yX5_init cX5_init 2 none ∈ BIG := bt2 (i := 64) (Eq.refl _) rfl
set_option maxRecDepth 100000 in
theorem m_344 : Cond.methodLink RX5 3 yX8_init ∈ BIG := bt2 (i := 65) (Eq.refl _) rfl
set_option maxRecDepth 100000 in
theorem m_345 : Cond.fieldLink RX5 9 "WheelAndWire$LeftPlan" "tops" "[I" ∈ BIG := bt2 (i := 66) (Eq.refl _) rfl
set_option maxRecDepth 100000 in
theorem m_346 : Cond.fieldLink RX5 15 "WheelAndWire$LeftPlan" "bottoms" "[I" ∈ BIG := bt2 (i := 67) (Eq.refl _) rfl
set_option maxRecDepth 100000 in
theorem m_347 : Cond.fieldLink RX5 18 "WheelAndWire$LeftPlan" "lefts" "[I" ∈ BIG := bt2 (i := 68) (Eq.refl _) rfl
set_option maxRecDepth 100000 in
theorem m_348 : Cond.fieldLink RX5 21 "WheelAndWire$LeftPlan" "rights" "[I" ∈ BIG := bt2 (i := 69) (Eq.refl _) rfl
set_option maxRecDepth 100000 in
theorem m_349 : Cond.fieldLink RX5 24 "WheelAndWire$LeftPlan" "size" "I" ∈ BIG := bt2 (i := 70) (Eq.refl _) rfl
set_option maxRecDepth 100000 in
theorem m_350 : Cond.fieldLink RX11 238 "WheelAndWire$LeftPlan" "size" "I" ∈ BIG := bt2 (i := 71) (Eq.refl _) rfl
set_option maxRecDepth 100000 in
theorem m_351 : Cond.fieldLink RX5 28 "WheelAndWire$LeftPlan" "workedOut" "Z" ∈ BIG := bt2 (i := 72) (Eq.refl _) rfl
set_option maxRecDepth 100000 in
theorem m_368 : Cond.classLink RX11 66 RX2 ∈ BIG := bt2 (i := 89) (Eq.refl _) rfl
set_option maxRecDepth 100000 in
theorem m_369 : Cond.instantiable RX2 4 ∈ BIG := bt2 (i := 90) (Eq.refl _) rfl
set_option maxRecDepth 100000 in
theorem m_371 : Cond.instanceMethod yX2_init ∈ BIG := bt2 (i := 92) (Eq.refl _) rfl
set_option maxRecDepth 100000 in
theorem m_372 : Cond.code yX2_init cX2_init 1 none ∈ BIG := bt2 (i := 93) (Eq.refl _) rfl
set_option maxRecDepth 100000 in
theorem m_373 : Cond.methodLink RX2 3 Lib.objectInit ∈ BIG := bt2 (i := 94) (Eq.refl _) rfl
set_option maxRecDepth 100000 in
theorem m_374 : Cond.fieldLink RX2 9 "WheelAndWire$Books" "limits" "[I" ∈ BIG := bt2 (i := 95) (Eq.refl _) rfl
set_option maxRecDepth 100000 in
theorem m_375 : Cond.fieldLink RX2 15 "WheelAndWire$Books" "times" "[I" ∈ BIG := bt2 (i := 96) (Eq.refl _) rfl
set_option maxRecDepth 100000 in
theorem m_376 : Cond.fieldLink RX11 289 "WheelAndWire$Books" "times" "[I" ∈ BIG := bt2 (i := 97) (Eq.refl _) rfl
set_option maxRecDepth 100000 in
theorem m_377 : Cond.fieldLink RX2 18 "WheelAndWire$Books" "bought" "[I" ∈ BIG := bt2 (i := 98) (Eq.refl _) rfl
set_option maxRecDepth 100000 in
theorem m_378 : Cond.fieldLink RX2 21 "WheelAndWire$Books" "overs" "I" ∈ BIG := bt2 (i := 99) (Eq.refl _) rfl
set_option maxRecDepth 100000 in
theorem m_379 : Cond.fieldLink RX11 274 "WheelAndWire$Books" "overs" "I" ∈ BIG := bt2 (i := 100) (Eq.refl _) rfl
set_option maxRecDepth 100000 in
theorem m_389 : Cond.fieldLink RX11 12 "WheelAndWire" "text" "LWheelAndWire$Text;" ∈ BIG := bt2 (i := 110) (Eq.refl _) rfl
set_option maxRecDepth 100000 in
theorem m_390 : Cond.fieldLink RX11 19 "WheelAndWire" "cheese" "LWheelAndWire$Form;" ∈ BIG := bt2 (i := 111) (Eq.refl _) rfl
set_option maxRecDepth 100000 in
theorem m_391 : Cond.fieldLink RX11 28 "WheelAndWire" "board" "LWheelAndWire$Board;" ∈ BIG := bt2 (i := 112) (Eq.refl _) rfl
set_option maxRecDepth 100000 in
theorem m_392 : Cond.fieldLink RX11 32 "WheelAndWire" "slots" "[LWheelAndWire$Board;" ∈ BIG := bt2 (i := 113) (Eq.refl _) rfl
set_option maxRecDepth 100000 in
theorem m_393 : Cond.fieldLink RX11 41 "WheelAndWire" "shop" "LWheelAndWire$Shop;" ∈ BIG := bt2 (i := 114) (Eq.refl _) rfl
set_option maxRecDepth 100000 in
theorem m_394 : Cond.fieldLink RX11 48 "WheelAndWire" "orderPlan" "LWheelAndWire$OrderPlan;" ∈ BIG := bt2 (i := 115) (Eq.refl _) rfl
set_option maxRecDepth 100000 in
theorem m_395 : Cond.fieldLink RX11 55 "WheelAndWire" "fairPlan" "LWheelAndWire$FairPlan;" ∈ BIG := bt2 (i := 116) (Eq.refl _) rfl
set_option maxRecDepth 100000 in
theorem m_396 : Cond.fieldLink RX11 62 "WheelAndWire" "leftPlan" "LWheelAndWire$LeftPlan;" ∈ BIG := bt2 (i := 117) (Eq.refl _) rfl
set_option maxRecDepth 100000 in
theorem m_397 : Cond.fieldLink RX11 69 "WheelAndWire" "books" "LWheelAndWire$Books;" ∈ BIG := bt2 (i := 118) (Eq.refl _) rfl
set_option maxRecDepth 100000 in
theorem m_398 : Cond.fieldLink RX11 73 "WheelAndWire" "price" "I" ∈ BIG := bt2 (i := 119) (Eq.refl _) rfl
set_option maxRecDepth 100000 in
theorem m_399 : Cond.fieldLink RX11 77 "WheelAndWire" "endPrice" "I" ∈ BIG := bt2 (i := 120) (Eq.refl _) rfl
set_option maxRecDepth 100000 in
theorem m_423 : Cond.methodLink RL 15 yX11_write ∈ BIG := bt2 (i := 144) (Eq.refl _) rfl
set_option maxRecDepth 100000 in
theorem m_424 : Cond.instanceMethod yX11_write ∈ BIG := bt2 (i := 145) (Eq.refl _) rfl
set_option maxRecDepth 100000 in
theorem m_425 : Cond.selects RX11 yX11_write yX11_write ∈ BIG := bt2 (i := 146) (Eq.refl _) rfl
set_option maxRecDepth 100000 in
theorem m_426 : Cond.code yX11_write cX11_write 4 (some .int) ∈ BIG := bt2 (i := 147) (Eq.refl _) rfl
set_option maxRecDepth 100000 in
theorem m_427 : Cond.methodLink RX11 83 yX10_append ∈ BIG := bt2 (i := 148) (Eq.refl _) rfl
set_option maxRecDepth 100000 in
theorem m_428 : Cond.instanceMethod yX10_append ∈ BIG := bt2 (i := 149) (Eq.refl _) rfl
set_option maxRecDepth 100000 in
theorem m_429 : Cond.selects RX10 yX10_append yX10_append ∈ BIG := bt2 (i := 150) (Eq.refl _) rfl
set_option maxRecDepth 100000 in
theorem m_430 : Cond.code yX10_append cX10_append 5 none ∈ BIG := bt2 (i := 151) (Eq.refl _) rfl
set_option maxRecDepth 100000 in
theorem m_431 : Cond.methodLink RL 20 yX11_wipe ∈ BIG := bt2 (i := 152) (Eq.refl _) rfl
set_option maxRecDepth 100000 in
theorem m_432 : Cond.instanceMethod yX11_wipe ∈ BIG := bt2 (i := 153) (Eq.refl _) rfl
set_option maxRecDepth 100000 in
theorem m_433 : Cond.selects RX11 yX11_wipe yX11_wipe ∈ BIG := bt2 (i := 154) (Eq.refl _) rfl
set_option maxRecDepth 100000 in
theorem m_434 : Cond.code yX11_wipe cX11_wipe 2 (some .int) ∈ BIG := bt2 (i := 155) (Eq.refl _) rfl
set_option maxRecDepth 100000 in
theorem m_435 : Cond.methodLink RL 25 yX11_fault ∈ BIG := bt2 (i := 156) (Eq.refl _) rfl
set_option maxRecDepth 100000 in
theorem m_436 : Cond.instanceMethod yX11_fault ∈ BIG := bt2 (i := 157) (Eq.refl _) rfl
set_option maxRecDepth 100000 in
theorem m_437 : Cond.selects RX11 yX11_fault yX11_fault ∈ BIG := bt2 (i := 158) (Eq.refl _) rfl
set_option maxRecDepth 100000 in
theorem m_438 : Cond.code yX11_fault cX11_fault 1 (some .int) ∈ BIG := bt2 (i := 159) (Eq.refl _) rfl
set_option maxRecDepth 100000 in
theorem m_439 : Cond.methodLink RX11 87 yX10_firstFault ∈ BIG := bt2 (i := 160) (Eq.refl _) rfl
set_option maxRecDepth 100000 in
theorem m_440 : Cond.instanceMethod yX10_firstFault ∈ BIG := bt2 (i := 161) (Eq.refl _) rfl
set_option maxRecDepth 100000 in
theorem m_441 : Cond.selects RX10 yX10_firstFault yX10_firstFault ∈ BIG := bt2 (i := 162) (Eq.refl _) rfl
set_option maxRecDepth 100000 in
theorem m_442 : Cond.code yX10_firstFault cX10_firstFault 5 (some .int) ∈ BIG := bt2 (i := 163) (Eq.refl _) rfl
set_option maxRecDepth 100000 in
theorem m_444 : Cond.static yX11_kindOf ∈ BIG := bt2 (i := 165) (Eq.refl _) rfl
set_option maxRecDepth 100000 in
theorem m_445 : Cond.code yX11_kindOf cX11_kindOf 1 (some .int) ∈ BIG := bt2 (i := 166) (Eq.refl _) rfl
set_option maxRecDepth 100000 in
theorem m_446 : Cond.methodLink RL 29 yX11_form ∈ BIG := bt2 (i := 167) (Eq.refl _) rfl
set_option maxRecDepth 100000 in
theorem m_447 : Cond.instanceMethod yX11_form ∈ BIG := bt2 (i := 168) (Eq.refl _) rfl
set_option maxRecDepth 100000 in
theorem m_448 : Cond.selects RX11 yX11_form yX11_form ∈ BIG := bt2 (i := 169) (Eq.refl _) rfl
set_option maxRecDepth 100000 in
theorem m_449 : Cond.code yX11_form cX11_form 2 (some .int) ∈ BIG := bt2 (i := 170) (Eq.refl _) rfl
set_option maxRecDepth 100000 in
theorem m_450 : Cond.methodLink RX11 91 yX4_take ∈ BIG := bt2 (i := 171) (Eq.refl _) rfl
set_option maxRecDepth 100000 in
theorem m_451 : Cond.instanceMethod yX4_take ∈ BIG := bt2 (i := 172) (Eq.refl _) rfl
set_option maxRecDepth 100000 in
theorem m_452 : Cond.selects RX4 yX4_take yX4_take ∈ BIG := bt2 (i := 173) (Eq.refl _) rfl
set_option maxRecDepth 100000 in
theorem m_453 : Cond.code yX4_take cX4_take 5 none ∈ BIG := bt2 (i := 174) (Eq.refl _) rfl
set_option maxRecDepth 100000 in
theorem m_455 : Cond.methodLink RX11 95 yX1_startAnew ∈ BIG := bt2 (i := 176) (Eq.refl _) rfl
set_option maxRecDepth 100000 in
theorem m_456 : Cond.methodLink RX11 102 yX5_empty ∈ BIG := bt2 (i := 177) (Eq.refl _) rfl
set_option maxRecDepth 100000 in
theorem m_457 : Cond.instanceMethod yX5_empty ∈ BIG := bt2 (i := 178) (Eq.refl _) rfl
set_option maxRecDepth 100000 in
theorem m_458 : Cond.selects RX5 yX5_empty yX5_empty ∈ BIG := bt2 (i := 179) (Eq.refl _) rfl
set_option maxRecDepth 100000 in
theorem m_459 : Cond.code yX5_empty cX5_empty 1 none ∈ BIG := bt2 (i := 180) (Eq.refl _) rfl
set_option maxRecDepth 100000 in
theorem m_460 : Cond.methodLink RL 33 yX11_place ∈ BIG := bt2 (i := 181) (Eq.refl _) rfl
set_option maxRecDepth 100000 in
theorem m_461 : Cond.instanceMethod yX11_place ∈ BIG := bt2 (i := 182) (Eq.refl _) rfl
set_option maxRecDepth 100000 in
theorem m_462 : Cond.selects RX11 yX11_place yX11_place ∈ BIG := bt2 (i := 183) (Eq.refl _) rfl
set_option maxRecDepth 100000 in
theorem m_463 : Cond.code yX11_place cX11_place 3 (some .int) ∈ BIG := bt2 (i := 184) (Eq.refl _) rfl
set_option maxRecDepth 100000 in
theorem m_464 : Cond.methodLink RX11 114 yX4_holds ∈ BIG := bt2 (i := 185) (Eq.refl _) rfl
set_option maxRecDepth 100000 in
theorem m_465 : Cond.instanceMethod yX4_holds ∈ BIG := bt2 (i := 186) (Eq.refl _) rfl
set_option maxRecDepth 100000 in
theorem m_466 : Cond.selects RX4 yX4_holds yX4_holds ∈ BIG := bt2 (i := 187) (Eq.refl _) rfl
set_option maxRecDepth 100000 in
theorem m_467 : Cond.code yX4_holds cX4_holds 5 (some .boolean) ∈ BIG := bt2 (i := 188) (Eq.refl _) rfl
set_option maxRecDepth 100000 in
theorem m_468 : Cond.methodLink RX11 118 yX4_kindAt ∈ BIG := bt2 (i := 189) (Eq.refl _) rfl
set_option maxRecDepth 100000 in
theorem m_469 : Cond.methodLink RL 38 yX11_cut ∈ BIG := bt2 (i := 190) (Eq.refl _) rfl
set_option maxRecDepth 100000 in
theorem m_470 : Cond.instanceMethod yX11_cut ∈ BIG := bt2 (i := 191) (Eq.refl _) rfl
set_option maxRecDepth 100000 in
theorem m_471 : Cond.selects RX11 yX11_cut yX11_cut ∈ BIG := bt2 (i := 192) (Eq.refl _) rfl
set_option maxRecDepth 100000 in
theorem m_472 : Cond.code yX11_cut cX11_cut 5 (some .int) ∈ BIG := bt2 (i := 193) (Eq.refl _) rfl
set_option maxRecDepth 100000 in
theorem m_473 : Cond.methodLink RX11 122 yX1_stillHas ∈ BIG := bt2 (i := 194) (Eq.refl _) rfl
set_option maxRecDepth 100000 in
theorem m_474 : Cond.instanceMethod yX1_stillHas ∈ BIG := bt2 (i := 195) (Eq.refl _) rfl
set_option maxRecDepth 100000 in
theorem m_475 : Cond.selects RX1 yX1_stillHas yX1_stillHas ∈ BIG := bt2 (i := 196) (Eq.refl _) rfl
set_option maxRecDepth 100000 in
theorem m_476 : Cond.code yX1_stillHas cX1_stillHas 2 (some .boolean) ∈ BIG := bt2 (i := 197) (Eq.refl _) rfl
set_option maxRecDepth 100000 in
theorem m_477 : Cond.methodLink RX1 44 yX1_knows ∈ BIG := bt2 (i := 198) (Eq.refl _) rfl
set_option maxRecDepth 100000 in
theorem m_478 : Cond.instanceMethod yX1_knows ∈ BIG := bt2 (i := 199) (Eq.refl _) rfl
set_option maxRecDepth 100000 in
theorem m_479 : Cond.selects RX1 yX1_knows yX1_knows ∈ BIG := bt2 (i := 200) (Eq.refl _) rfl
set_option maxRecDepth 100000 in
theorem m_480 : Cond.code yX1_knows cX1_knows 2 (some .boolean) ∈ BIG := bt2 (i := 201) (Eq.refl _) rfl
set_option maxRecDepth 100000 in
theorem m_481 : Cond.methodLink RX11 134 yX1_divide ∈ BIG := bt2 (i := 202) (Eq.refl _) rfl
set_option maxRecDepth 100000 in
theorem m_482 : Cond.instanceMethod yX1_divide ∈ BIG := bt2 (i := 203) (Eq.refl _) rfl
set_option maxRecDepth 100000 in
theorem m_483 : Cond.selects RX1 yX1_divide yX1_divide ∈ BIG := bt2 (i := 204) (Eq.refl _) rfl
set_option maxRecDepth 100000 in
theorem m_484 : Cond.code yX1_divide cX1_divide 4 (some .int) ∈ BIG := bt2 (i := 205) (Eq.refl _) rfl
set_option maxRecDepth 100000 in
theorem m_485 : Cond.methodLink RX1 51 yX7_part ∈ BIG := bt2 (i := 206) (Eq.refl _) rfl
set_option maxRecDepth 100000 in
theorem m_486 : Cond.instanceMethod yX7_part ∈ BIG := bt2 (i := 207) (Eq.refl _) rfl
set_option maxRecDepth 100000 in
theorem m_487 : Cond.selects RX7 yX7_part yX7_part ∈ BIG := bt2 (i := 208) (Eq.refl _) rfl
set_option maxRecDepth 100000 in
theorem m_488 : Cond.code yX7_part cX7_part 6 none ∈ BIG := bt2 (i := 209) (Eq.refl _) rfl
set_option maxRecDepth 100000 in
theorem m_489 : Cond.methodLink RX7 99 yX7_become ∈ BIG := bt2 (i := 210) (Eq.refl _) rfl
set_option maxRecDepth 100000 in
theorem m_490 : Cond.instanceMethod yX7_become ∈ BIG := bt2 (i := 211) (Eq.refl _) rfl
set_option maxRecDepth 100000 in
theorem m_491 : Cond.selects RX7 yX7_become yX7_become ∈ BIG := bt2 (i := 212) (Eq.refl _) rfl
set_option maxRecDepth 100000 in
theorem m_492 : Cond.code yX7_become cX7_become 2 none ∈ BIG := bt2 (i := 213) (Eq.refl _) rfl
set_option maxRecDepth 100000 in
theorem m_493 : Cond.methodLink RX7 103 yX7_share ∈ BIG := bt2 (i := 214) (Eq.refl _) rfl
set_option maxRecDepth 100000 in
theorem m_494 : Cond.static yX7_share ∈ BIG := bt2 (i := 215) (Eq.refl _) rfl
set_option maxRecDepth 100000 in
theorem m_495 : Cond.code yX7_share cX7_share 3 (some .int) ∈ BIG := bt2 (i := 216) (Eq.refl _) rfl
set_option maxRecDepth 100000 in
theorem m_496 : Cond.methodLink RX1 40 yX7_become ∈ BIG := bt2 (i := 217) (Eq.refl _) rfl
set_option maxRecDepth 100000 in
theorem m_497 : Cond.methodLink RL 43 yX11_about ∈ BIG := bt2 (i := 218) (Eq.refl _) rfl
set_option maxRecDepth 100000 in
theorem m_498 : Cond.instanceMethod yX11_about ∈ BIG := bt2 (i := 219) (Eq.refl _) rfl
set_option maxRecDepth 100000 in
theorem m_499 : Cond.selects RX11 yX11_about yX11_about ∈ BIG := bt2 (i := 220) (Eq.refl _) rfl
set_option maxRecDepth 100000 in
theorem m_500 : Cond.code yX11_about cX11_about 4 (some .int) ∈ BIG := bt2 (i := 221) (Eq.refl _) rfl
set_option maxRecDepth 100000 in
theorem m_501 : Cond.methodLink RX11 138 yX1_knows ∈ BIG := bt2 (i := 222) (Eq.refl _) rfl
set_option maxRecDepth 100000 in
theorem m_502 : Cond.methodLink RX11 141 yX7_block ∈ BIG := bt2 (i := 223) (Eq.refl _) rfl
set_option maxRecDepth 100000 in
theorem m_503 : Cond.instanceMethod yX7_block ∈ BIG := bt2 (i := 224) (Eq.refl _) rfl
set_option maxRecDepth 100000 in
theorem m_504 : Cond.selects RX7 yX7_block yX7_block ∈ BIG := bt2 (i := 225) (Eq.refl _) rfl
set_option maxRecDepth 100000 in
theorem m_505 : Cond.code yX7_block cX7_block 1 (some .int) ∈ BIG := bt2 (i := 226) (Eq.refl _) rfl
set_option maxRecDepth 100000 in
theorem m_506 : Cond.methodLink RX11 150 yX7_bareEdges ∈ BIG := bt2 (i := 227) (Eq.refl _) rfl
set_option maxRecDepth 100000 in
theorem m_507 : Cond.instanceMethod yX7_bareEdges ∈ BIG := bt2 (i := 228) (Eq.refl _) rfl
set_option maxRecDepth 100000 in
theorem m_508 : Cond.selects RX7 yX7_bareEdges yX7_bareEdges ∈ BIG := bt2 (i := 229) (Eq.refl _) rfl
set_option maxRecDepth 100000 in
theorem m_509 : Cond.code yX7_bareEdges cX7_bareEdges 2 (some .int) ∈ BIG := bt2 (i := 230) (Eq.refl _) rfl
set_option maxRecDepth 100000 in
theorem m_510 : Cond.methodLink RX7 65 yX7_edgesAbove ∈ BIG := bt2 (i := 231) (Eq.refl _) rfl
set_option maxRecDepth 100000 in
theorem m_511 : Cond.instanceMethod yX7_edgesAbove ∈ BIG := bt2 (i := 232) (Eq.refl _) rfl
set_option maxRecDepth 100000 in
theorem m_512 : Cond.selects RX7 yX7_edgesAbove yX7_edgesAbove ∈ BIG := bt2 (i := 233) (Eq.refl _) rfl
set_option maxRecDepth 100000 in
theorem m_513 : Cond.code yX7_edgesAbove cX7_edgesAbove 1 (some .int) ∈ BIG := bt2 (i := 234) (Eq.refl _) rfl
set_option maxRecDepth 100000 in
theorem m_514 : Cond.methodLink RX7 69 yX7_edgesBelow ∈ BIG := bt2 (i := 235) (Eq.refl _) rfl
set_option maxRecDepth 100000 in
theorem m_515 : Cond.instanceMethod yX7_edgesBelow ∈ BIG := bt2 (i := 236) (Eq.refl _) rfl
set_option maxRecDepth 100000 in
theorem m_516 : Cond.selects RX7 yX7_edgesBelow yX7_edgesBelow ∈ BIG := bt2 (i := 237) (Eq.refl _) rfl
set_option maxRecDepth 100000 in
theorem m_517 : Cond.code yX7_edgesBelow cX7_edgesBelow 2 (some .int) ∈ BIG := bt2 (i := 238) (Eq.refl _) rfl
set_option maxRecDepth 100000 in
theorem m_518 : Cond.methodLink RX7 73 yX7_edgesLeft ∈ BIG := bt2 (i := 239) (Eq.refl _) rfl
set_option maxRecDepth 100000 in
theorem m_519 : Cond.instanceMethod yX7_edgesLeft ∈ BIG := bt3 (i := 0) (Eq.refl _) rfl
set_option maxRecDepth 100000 in
theorem m_520 : Cond.selects RX7 yX7_edgesLeft yX7_edgesLeft ∈ BIG := bt3 (i := 1) (Eq.refl _) rfl
set_option maxRecDepth 100000 in
theorem m_521 : Cond.code yX7_edgesLeft cX7_edgesLeft 1 (some .int) ∈ BIG := bt3 (i := 2) (Eq.refl _) rfl
set_option maxRecDepth 100000 in
theorem m_522 : Cond.methodLink RX7 76 yX7_edgesRight ∈ BIG := bt3 (i := 3) (Eq.refl _) rfl
set_option maxRecDepth 100000 in
theorem m_523 : Cond.instanceMethod yX7_edgesRight ∈ BIG := bt3 (i := 4) (Eq.refl _) rfl
set_option maxRecDepth 100000 in
theorem m_524 : Cond.selects RX7 yX7_edgesRight yX7_edgesRight ∈ BIG := bt3 (i := 5) (Eq.refl _) rfl
set_option maxRecDepth 100000 in
theorem m_525 : Cond.code yX7_edgesRight cX7_edgesRight 2 (some .int) ∈ BIG := bt3 (i := 6) (Eq.refl _) rfl
set_option maxRecDepth 100000 in
theorem m_526 : Cond.methodLink RX11 154 yX7_dried ∈ BIG := bt3 (i := 7) (Eq.refl _) rfl
set_option maxRecDepth 100000 in
theorem m_527 : Cond.instanceMethod yX7_dried ∈ BIG := bt3 (i := 8) (Eq.refl _) rfl
set_option maxRecDepth 100000 in
theorem m_528 : Cond.selects RX7 yX7_dried yX7_dried ∈ BIG := bt3 (i := 9) (Eq.refl _) rfl
set_option maxRecDepth 100000 in
theorem m_529 : Cond.code yX7_dried cX7_dried 1 (some .int) ∈ BIG := bt3 (i := 10) (Eq.refl _) rfl
set_option maxRecDepth 100000 in
theorem m_530 : Cond.methodLink RX11 163 yX7_isEnd ∈ BIG := bt3 (i := 11) (Eq.refl _) rfl
set_option maxRecDepth 100000 in
theorem m_531 : Cond.instanceMethod yX7_isEnd ∈ BIG := bt3 (i := 12) (Eq.refl _) rfl
set_option maxRecDepth 100000 in
theorem m_532 : Cond.selects RX7 yX7_isEnd yX7_isEnd ∈ BIG := bt3 (i := 13) (Eq.refl _) rfl
set_option maxRecDepth 100000 in
theorem m_533 : Cond.code yX7_isEnd cX7_isEnd 3 (some .boolean) ∈ BIG := bt3 (i := 14) (Eq.refl _) rfl
set_option maxRecDepth 100000 in
theorem m_534 : Cond.methodLink RL 47 yX11_weighs ∈ BIG := bt3 (i := 15) (Eq.refl _) rfl
set_option maxRecDepth 100000 in
theorem m_535 : Cond.instanceMethod yX11_weighs ∈ BIG := bt3 (i := 16) (Eq.refl _) rfl
set_option maxRecDepth 100000 in
theorem m_536 : Cond.selects RX11 yX11_weighs yX11_weighs ∈ BIG := bt3 (i := 17) (Eq.refl _) rfl
set_option maxRecDepth 100000 in
theorem m_537 : Cond.code yX11_weighs cX11_weighs 2 (some .int) ∈ BIG := bt3 (i := 18) (Eq.refl _) rfl
set_option maxRecDepth 100000 in
theorem m_538 : Cond.methodLink RX11 167 yX7_weight ∈ BIG := bt3 (i := 19) (Eq.refl _) rfl
set_option maxRecDepth 100000 in
theorem m_539 : Cond.instanceMethod yX7_weight ∈ BIG := bt3 (i := 20) (Eq.refl _) rfl
set_option maxRecDepth 100000 in
theorem m_540 : Cond.selects RX7 yX7_weight yX7_weight ∈ BIG := bt3 (i := 21) (Eq.refl _) rfl
set_option maxRecDepth 100000 in
theorem m_541 : Cond.code yX7_weight cX7_weight 1 (some .int) ∈ BIG := bt3 (i := 22) (Eq.refl _) rfl
set_option maxRecDepth 100000 in
theorem m_542 : Cond.methodLink RX7 79 yX7_dried ∈ BIG := bt3 (i := 23) (Eq.refl _) rfl
set_option maxRecDepth 100000 in
theorem m_543 : Cond.methodLink RX7 82 Lib.Math.max.name ∈ BIG := bt3 (i := 24) (Eq.refl _) rfl
set_option maxRecDepth 100000 in
theorem m_544 : Cond.methodLink RL 52 yX11_pass ∈ BIG := bt3 (i := 25) (Eq.refl _) rfl
set_option maxRecDepth 100000 in
theorem m_545 : Cond.instanceMethod yX11_pass ∈ BIG := bt3 (i := 26) (Eq.refl _) rfl
set_option maxRecDepth 100000 in
theorem m_546 : Cond.selects RX11 yX11_pass yX11_pass ∈ BIG := bt3 (i := 27) (Eq.refl _) rfl
set_option maxRecDepth 100000 in
theorem m_547 : Cond.code yX11_pass cX11_pass 2 (some .int) ∈ BIG := bt3 (i := 28) (Eq.refl _) rfl
set_option maxRecDepth 100000 in
theorem m_548 : Cond.methodLink RX11 173 yX1_goBy ∈ BIG := bt3 (i := 29) (Eq.refl _) rfl
set_option maxRecDepth 100000 in
theorem m_549 : Cond.instanceMethod yX1_goBy ∈ BIG := bt3 (i := 30) (Eq.refl _) rfl
set_option maxRecDepth 100000 in
theorem m_550 : Cond.selects RX1 yX1_goBy yX1_goBy ∈ BIG := bt3 (i := 31) (Eq.refl _) rfl
set_option maxRecDepth 100000 in
theorem m_551 : Cond.code yX1_goBy cX1_goBy 3 none ∈ BIG := bt3 (i := 32) (Eq.refl _) rfl
set_option maxRecDepth 100000 in
theorem m_552 : Cond.methodLink RX1 55 yX7_dry ∈ BIG := bt3 (i := 33) (Eq.refl _) rfl
set_option maxRecDepth 100000 in
theorem m_553 : Cond.instanceMethod yX7_dry ∈ BIG := bt3 (i := 34) (Eq.refl _) rfl
set_option maxRecDepth 100000 in
theorem m_554 : Cond.selects RX7 yX7_dry yX7_dry ∈ BIG := bt3 (i := 35) (Eq.refl _) rfl
set_option maxRecDepth 100000 in
theorem m_555 : Cond.code yX7_dry cX7_dry 4 none ∈ BIG := bt3 (i := 36) (Eq.refl _) rfl
set_option maxRecDepth 100000 in
theorem m_558 : Cond.methodLink RL 56 yX11_wrap ∈ BIG := bt3 (i := 39) (Eq.refl _) rfl
set_option maxRecDepth 100000 in
theorem m_559 : Cond.instanceMethod yX11_wrap ∈ BIG := bt3 (i := 40) (Eq.refl _) rfl
set_option maxRecDepth 100000 in
theorem m_560 : Cond.selects RX11 yX11_wrap yX11_wrap ∈ BIG := bt3 (i := 41) (Eq.refl _) rfl
set_option maxRecDepth 100000 in
theorem m_561 : Cond.code yX11_wrap cX11_wrap 4 (some .int) ∈ BIG := bt3 (i := 42) (Eq.refl _) rfl
set_option maxRecDepth 100000 in
theorem m_562 : Cond.fieldLink RX11 177 "WheelAndWire" "DRYING" "[I" ∈ BIG := bt3 (i := 43) (Eq.refl _) rfl
set_option maxRecDepth 100000 in
theorem m_563 : Cond.methodLink RL 60 yX11_trim ∈ BIG := bt3 (i := 44) (Eq.refl _) rfl
set_option maxRecDepth 100000 in
theorem m_564 : Cond.instanceMethod yX11_trim ∈ BIG := bt3 (i := 45) (Eq.refl _) rfl
set_option maxRecDepth 100000 in
theorem m_565 : Cond.selects RX11 yX11_trim yX11_trim ∈ BIG := bt3 (i := 46) (Eq.refl _) rfl
set_option maxRecDepth 100000 in
theorem m_566 : Cond.code yX11_trim cX11_trim 3 (some .int) ∈ BIG := bt3 (i := 47) (Eq.refl _) rfl
set_option maxRecDepth 100000 in
theorem m_567 : Cond.methodLink RX11 181 yX7_shave ∈ BIG := bt3 (i := 48) (Eq.refl _) rfl
set_option maxRecDepth 100000 in
theorem m_568 : Cond.instanceMethod yX7_shave ∈ BIG := bt3 (i := 49) (Eq.refl _) rfl
set_option maxRecDepth 100000 in
theorem m_569 : Cond.selects RX7 yX7_shave yX7_shave ∈ BIG := bt3 (i := 50) (Eq.refl _) rfl
set_option maxRecDepth 100000 in
theorem m_570 : Cond.code yX7_shave cX7_shave 2 none ∈ BIG := bt3 (i := 51) (Eq.refl _) rfl
set_option maxRecDepth 100000 in
theorem m_571 : Cond.methodLink RX7 92 yX7_bareEdges ∈ BIG := bt3 (i := 52) (Eq.refl _) rfl
set_option maxRecDepth 100000 in
theorem m_572 : Cond.methodLink RL 64 yX11_sell ∈ BIG := bt3 (i := 53) (Eq.refl _) rfl
set_option maxRecDepth 100000 in
theorem m_573 : Cond.instanceMethod yX11_sell ∈ BIG := bt3 (i := 54) (Eq.refl _) rfl
set_option maxRecDepth 100000 in
theorem m_574 : Cond.selects RX11 yX11_sell yX11_sell ∈ BIG := bt3 (i := 55) (Eq.refl _) rfl
set_option maxRecDepth 100000 in
theorem m_575 : Cond.code yX11_sell cX11_sell 3 (some .int) ∈ BIG := bt3 (i := 56) (Eq.refl _) rfl
set_option maxRecDepth 100000 in
theorem m_576 : Cond.methodLink RL 69 yX11_serves ∈ BIG := bt3 (i := 57) (Eq.refl _) rfl
set_option maxRecDepth 100000 in
theorem m_577 : Cond.instanceMethod yX11_serves ∈ BIG := bt3 (i := 58) (Eq.refl _) rfl
set_option maxRecDepth 100000 in
theorem m_578 : Cond.selects RX11 yX11_serves yX11_serves ∈ BIG := bt3 (i := 59) (Eq.refl _) rfl
set_option maxRecDepth 100000 in
theorem m_579 : Cond.code yX11_serves cX11_serves 5 (some .int) ∈ BIG := bt3 (i := 60) (Eq.refl _) rfl
set_option maxRecDepth 100000 in
theorem m_580 : Cond.methodLink RX11 184 yX11_isAsk ∈ BIG := bt3 (i := 61) (Eq.refl _) rfl
set_option maxRecDepth 100000 in
theorem m_581 : Cond.static yX11_isAsk ∈ BIG := bt3 (i := 62) (Eq.refl _) rfl
set_option maxRecDepth 100000 in
theorem m_582 : Cond.code yX11_isAsk cX11_isAsk 3 (some .boolean) ∈ BIG := bt3 (i := 63) (Eq.refl _) rfl
set_option maxRecDepth 100000 in
theorem m_583 : Cond.classLink RX11 188 RX0 ∈ BIG := bt3 (i := 64) (Eq.refl _) rfl
set_option maxRecDepth 100000 in
theorem m_584 : Cond.instantiable RX0 3 ∈ BIG := bt3 (i := 65) (Eq.refl _) rfl
set_option maxRecDepth 100000 in
theorem m_585 : Cond.methodLink RX11 190 yX0_init ∈ BIG := bt3 (i := 66) (Eq.refl _) rfl
set_option maxRecDepth 100000 in
theorem m_586 : Cond.instanceMethod yX0_init ∈ BIG := bt3 (i := 67) (Eq.refl _) rfl
set_option maxRecDepth 100000 in
theorem m_587 : Cond.code yX0_init cX0_init 4 none ∈ BIG := bt3 (i := 68) (Eq.refl _) rfl
set_option maxRecDepth 100000 in
theorem m_588 : Cond.methodLink RX0 3 Lib.objectInit ∈ BIG := bt3 (i := 69) (Eq.refl _) rfl
set_option maxRecDepth 100000 in
theorem m_589 : Cond.fieldLink RX0 9 "WheelAndWire$Ask" "weight" "I" ∈ BIG := bt3 (i := 70) (Eq.refl _) rfl
set_option maxRecDepth 100000 in
theorem m_590 : Cond.fieldLink RX6 45 "WheelAndWire$Ask" "weight" "I" ∈ BIG := bt3 (i := 71) (Eq.refl _) rfl
set_option maxRecDepth 100000 in
theorem m_591 : Cond.fieldLink RX0 15 "WheelAndWire$Ask" "most" "I" ∈ BIG := bt3 (i := 72) (Eq.refl _) rfl
set_option maxRecDepth 100000 in
theorem m_592 : Cond.fieldLink RX0 18 "WheelAndWire$Ask" "rind" "I" ∈ BIG := bt3 (i := 73) (Eq.refl _) rfl
set_option maxRecDepth 100000 in
theorem m_600 : Cond.methodLink RX11 193 yX0_isServedBy ∈ BIG := bt3 (i := 81) (Eq.refl _) rfl
set_option maxRecDepth 100000 in
theorem m_601 : Cond.instanceMethod yX0_isServedBy ∈ BIG := bt3 (i := 82) (Eq.refl _) rfl
set_option maxRecDepth 100000 in
theorem m_602 : Cond.selects RX0 yX0_isServedBy yX0_isServedBy ∈ BIG := bt3 (i := 83) (Eq.refl _) rfl
set_option maxRecDepth 100000 in
theorem m_603 : Cond.code yX0_isServedBy cX0_isServedBy 2 (some .boolean) ∈ BIG := bt3 (i := 84) (Eq.refl _) rfl
set_option maxRecDepth 100000 in
theorem m_604 : Cond.methodLink RX0 26 yX7_weight ∈ BIG := bt3 (i := 85) (Eq.refl _) rfl
set_option maxRecDepth 100000 in
theorem m_605 : Cond.methodLink RX0 30 yX0_fits ∈ BIG := bt3 (i := 86) (Eq.refl _) rfl
set_option maxRecDepth 100000 in
theorem m_606 : Cond.instanceMethod yX0_fits ∈ BIG := bt3 (i := 87) (Eq.refl _) rfl
set_option maxRecDepth 100000 in
theorem m_607 : Cond.selects RX0 yX0_fits yX0_fits ∈ BIG := bt3 (i := 88) (Eq.refl _) rfl
set_option maxRecDepth 100000 in
theorem m_608 : Cond.code yX0_fits cX0_fits 3 (some .boolean) ∈ BIG := bt3 (i := 89) (Eq.refl _) rfl
set_option maxRecDepth 100000 in
theorem m_609 : Cond.methodLink RL 74 yX11_stands ∈ BIG := bt3 (i := 90) (Eq.refl _) rfl
set_option maxRecDepth 100000 in
theorem m_610 : Cond.instanceMethod yX11_stands ∈ BIG := bt3 (i := 91) (Eq.refl _) rfl
set_option maxRecDepth 100000 in
theorem m_611 : Cond.selects RX11 yX11_stands yX11_stands ∈ BIG := bt3 (i := 92) (Eq.refl _) rfl
set_option maxRecDepth 100000 in
theorem m_612 : Cond.code yX11_stands cX11_stands 4 (some .int) ∈ BIG := bt3 (i := 93) (Eq.refl _) rfl
set_option maxRecDepth 100000 in
theorem m_613 : Cond.methodLink RX11 197 yX9_lightestPiece ∈ BIG := bt3 (i := 94) (Eq.refl _) rfl
set_option maxRecDepth 100000 in
theorem m_614 : Cond.instanceMethod yX9_lightestPiece ∈ BIG := bt3 (i := 95) (Eq.refl _) rfl
set_option maxRecDepth 100000 in
theorem m_615 : Cond.selects RX9 yX9_lightestPiece yX9_lightestPiece ∈ BIG := bt3 (i := 96) (Eq.refl _) rfl
set_option maxRecDepth 100000 in
theorem m_616 : Cond.code yX9_lightestPiece cX9_lightestPiece 7 (some .int) ∈ BIG := bt3 (i := 97) (Eq.refl _) rfl
set_option maxRecDepth 100000 in
theorem m_617 : Cond.methodLink RX9 49 yX7_weight ∈ BIG := bt3 (i := 98) (Eq.refl _) rfl
set_option maxRecDepth 100000 in
theorem m_618 : Cond.methodLink RX9 53 yX0_isServedBy ∈ BIG := bt3 (i := 99) (Eq.refl _) rfl
set_option maxRecDepth 100000 in
theorem m_619 : Cond.methodLink RL 79 yX11_next ∈ BIG := bt3 (i := 100) (Eq.refl _) rfl
set_option maxRecDepth 100000 in
theorem m_620 : Cond.instanceMethod yX11_next ∈ BIG := bt3 (i := 101) (Eq.refl _) rfl
set_option maxRecDepth 100000 in
theorem m_621 : Cond.selects RX11 yX11_next yX11_next ∈ BIG := bt3 (i := 102) (Eq.refl _) rfl
set_option maxRecDepth 100000 in
theorem m_622 : Cond.code yX11_next cX11_next 5 (some .int) ∈ BIG := bt3 (i := 103) (Eq.refl _) rfl
set_option maxRecDepth 100000 in
theorem m_623 : Cond.methodLink RX11 201 yX9_shortestCut ∈ BIG := bt3 (i := 104) (Eq.refl _) rfl
set_option maxRecDepth 100000 in
theorem m_624 : Cond.instanceMethod yX9_shortestCut ∈ BIG := bt3 (i := 105) (Eq.refl _) rfl
set_option maxRecDepth 100000 in
theorem m_625 : Cond.selects RX9 yX9_shortestCut yX9_shortestCut ∈ BIG := bt3 (i := 106) (Eq.refl _) rfl
set_option maxRecDepth 100000 in
theorem m_626 : Cond.code yX9_shortestCut cX9_shortestCut 8 (some .int) ∈ BIG := bt3 (i := 107) (Eq.refl _) rfl
set_option maxRecDepth 100000 in
theorem m_627 : Cond.constant RX9 59 (1000000) ∈ BIG := bt3 (i := 108) (Eq.refl _) rfl
set_option maxRecDepth 100000 in
theorem m_628 : Cond.methodLink RX9 60 yX7_cuts ∈ BIG := bt3 (i := 109) (Eq.refl _) rfl
set_option maxRecDepth 100000 in
theorem m_629 : Cond.instanceMethod yX7_cuts ∈ BIG := bt3 (i := 110) (Eq.refl _) rfl
set_option maxRecDepth 100000 in
theorem m_630 : Cond.selects RX7 yX7_cuts yX7_cuts ∈ BIG := bt3 (i := 111) (Eq.refl _) rfl
set_option maxRecDepth 100000 in
theorem m_631 : Cond.code yX7_cuts cX7_cuts 1 (some .int) ∈ BIG := bt3 (i := 112) (Eq.refl _) rfl
set_option maxRecDepth 100000 in
theorem m_632 : Cond.methodLink RX9 63 yX7_cutEdges ∈ BIG := bt3 (i := 113) (Eq.refl _) rfl
set_option maxRecDepth 100000 in
theorem m_633 : Cond.instanceMethod yX7_cutEdges ∈ BIG := bt3 (i := 114) (Eq.refl _) rfl
set_option maxRecDepth 100000 in
theorem m_634 : Cond.selects RX7 yX7_cutEdges yX7_cutEdges ∈ BIG := bt3 (i := 115) (Eq.refl _) rfl
set_option maxRecDepth 100000 in
theorem m_635 : Cond.code yX7_cutEdges cX7_cutEdges 2 (some .int) ∈ BIG := bt3 (i := 116) (Eq.refl _) rfl
set_option maxRecDepth 100000 in
theorem m_636 : Cond.methodLink RX7 95 yX7_isAcross ∈ BIG := bt3 (i := 117) (Eq.refl _) rfl
set_option maxRecDepth 100000 in
theorem m_637 : Cond.instanceMethod yX7_isAcross ∈ BIG := bt3 (i := 118) (Eq.refl _) rfl
set_option maxRecDepth 100000 in
theorem m_638 : Cond.selects RX7 yX7_isAcross yX7_isAcross ∈ BIG := bt3 (i := 119) (Eq.refl _) rfl
set_option maxRecDepth 100000 in
theorem m_639 : Cond.code yX7_isAcross cX7_isAcross 2 (some .boolean) ∈ BIG := bt3 (i := 120) (Eq.refl _) rfl
set_option maxRecDepth 100000 in
theorem m_640 : Cond.methodLink RX9 67 yX7_isAcross ∈ BIG := bt3 (i := 121) (Eq.refl _) rfl
set_option maxRecDepth 100000 in
theorem m_641 : Cond.methodLink RX9 71 yX7_cutAt ∈ BIG := bt3 (i := 122) (Eq.refl _) rfl
set_option maxRecDepth 100000 in
theorem m_642 : Cond.instanceMethod yX7_cutAt ∈ BIG := bt3 (i := 123) (Eq.refl _) rfl
set_option maxRecDepth 100000 in
theorem m_643 : Cond.selects RX7 yX7_cutAt yX7_cutAt ∈ BIG := bt3 (i := 124) (Eq.refl _) rfl
set_option maxRecDepth 100000 in
theorem m_644 : Cond.code yX7_cutAt cX7_cutAt 2 (some .int) ∈ BIG := bt3 (i := 125) (Eq.refl _) rfl
set_option maxRecDepth 100000 in
theorem m_645 : Cond.methodLink RX9 74 yX7_part ∈ BIG := bt3 (i := 126) (Eq.refl _) rfl
set_option maxRecDepth 100000 in
theorem m_646 : Cond.methodLink RX9 78 yX9_told ∈ BIG := bt3 (i := 127) (Eq.refl _) rfl
set_option maxRecDepth 100000 in
theorem m_647 : Cond.instanceMethod yX9_told ∈ BIG := bt3 (i := 128) (Eq.refl _) rfl
set_option maxRecDepth 100000 in
theorem m_648 : Cond.selects RX9 yX9_told yX9_told ∈ BIG := bt3 (i := 129) (Eq.refl _) rfl
set_option maxRecDepth 100000 in
theorem m_649 : Cond.code yX9_told cX9_told 5 (some .int) ∈ BIG := bt3 (i := 130) (Eq.refl _) rfl
set_option maxRecDepth 100000 in
theorem m_650 : Cond.methodLink RL 83 yX11_serve ∈ BIG := bt3 (i := 131) (Eq.refl _) rfl
set_option maxRecDepth 100000 in
theorem m_651 : Cond.instanceMethod yX11_serve ∈ BIG := bt3 (i := 132) (Eq.refl _) rfl
set_option maxRecDepth 100000 in
theorem m_652 : Cond.selects RX11 yX11_serve yX11_serve ∈ BIG := bt3 (i := 133) (Eq.refl _) rfl
set_option maxRecDepth 100000 in
theorem m_653 : Cond.code yX11_serve cX11_serve 6 (some .int) ∈ BIG := bt3 (i := 134) (Eq.refl _) rfl
set_option maxRecDepth 100000 in
theorem m_654 : Cond.methodLink RX11 204 yX9_cutOff ∈ BIG := bt3 (i := 135) (Eq.refl _) rfl
set_option maxRecDepth 100000 in
theorem m_655 : Cond.instanceMethod yX9_cutOff ∈ BIG := bt3 (i := 136) (Eq.refl _) rfl
set_option maxRecDepth 100000 in
theorem m_656 : Cond.selects RX9 yX9_cutOff yX9_cutOff ∈ BIG := bt3 (i := 137) (Eq.refl _) rfl
set_option maxRecDepth 100000 in
theorem m_657 : Cond.code yX9_cutOff cX9_cutOff 4 (some .int) ∈ BIG := bt3 (i := 138) (Eq.refl _) rfl
set_option maxRecDepth 100000 in
theorem m_658 : Cond.methodLink RX9 82 yX1_stillHas ∈ BIG := bt3 (i := 139) (Eq.refl _) rfl
set_option maxRecDepth 100000 in
theorem m_659 : Cond.methodLink RX9 85 yX1_divide ∈ BIG := bt3 (i := 140) (Eq.refl _) rfl
set_option maxRecDepth 100000 in
theorem m_660 : Cond.methodLink RL 87 yX11_two ∈ BIG := bt3 (i := 141) (Eq.refl _) rfl
set_option maxRecDepth 100000 in
theorem m_661 : Cond.instanceMethod yX11_two ∈ BIG := bt3 (i := 142) (Eq.refl _) rfl
set_option maxRecDepth 100000 in
theorem m_662 : Cond.selects RX11 yX11_two yX11_two ∈ BIG := bt3 (i := 143) (Eq.refl _) rfl
set_option maxRecDepth 100000 in
theorem m_663 : Cond.code yX11_two cX11_two 6 (some .int) ∈ BIG := bt3 (i := 144) (Eq.refl _) rfl
set_option maxRecDepth 100000 in
theorem m_664 : Cond.methodLink RX11 208 yX9_lookTwoAhead ∈ BIG := bt3 (i := 145) (Eq.refl _) rfl
set_option maxRecDepth 100000 in
theorem m_665 : Cond.instanceMethod yX9_lookTwoAhead ∈ BIG := bt3 (i := 146) (Eq.refl _) rfl
set_option maxRecDepth 100000 in
theorem m_666 : Cond.selects RX9 yX9_lookTwoAhead yX9_lookTwoAhead ∈ BIG := bt3 (i := 147) (Eq.refl _) rfl
set_option maxRecDepth 100000 in
theorem m_667 : Cond.code yX9_lookTwoAhead cX9_lookTwoAhead 5 none ∈ BIG := bt3 (i := 148) (Eq.refl _) rfl
set_option maxRecDepth 100000 in
theorem m_668 : Cond.methodLink RX9 95 yX9_laterWire ∈ BIG := bt3 (i := 149) (Eq.refl _) rfl
set_option maxRecDepth 100000 in
theorem m_669 : Cond.instanceMethod yX9_laterWire ∈ BIG := bt3 (i := 150) (Eq.refl _) rfl
set_option maxRecDepth 100000 in
theorem m_670 : Cond.selects RX9 yX9_laterWire yX9_laterWire ∈ BIG := bt3 (i := 151) (Eq.refl _) rfl
set_option maxRecDepth 100000 in
theorem m_671 : Cond.code yX9_laterWire cX9_laterWire 6 (some .int) ∈ BIG := bt3 (i := 152) (Eq.refl _) rfl
set_option maxRecDepth 100000 in
theorem m_672 : Cond.methodLink RX9 99 yX9_laterWireElsewhere ∈ BIG := bt3 (i := 153) (Eq.refl _) rfl
set_option maxRecDepth 100000 in
theorem m_673 : Cond.instanceMethod yX9_laterWireElsewhere ∈ BIG := bt3 (i := 154) (Eq.refl _) rfl
set_option maxRecDepth 100000 in
theorem m_674 : Cond.selects RX9 yX9_laterWireElsewhere yX9_laterWireElsewhere ∈ BIG := bt3 (i := 155) (Eq.refl _) rfl
set_option maxRecDepth 100000 in
theorem m_675 : Cond.code yX9_laterWireElsewhere cX9_laterWireElsewhere 6 (some .int) ∈ BIG := bt3 (i := 156) (Eq.refl _) rfl
set_option maxRecDepth 100000 in
theorem m_676 : Cond.methodLink RX9 112 Lib.Math.min.name ∈ BIG := bt3 (i := 157) (Eq.refl _) rfl
set_option maxRecDepth 100000 in
theorem m_677 : Cond.static Lib.Math.min.name ∈ BIG := bt3 (i := 158) (Eq.refl _) rfl
set_option maxRecDepth 100000 in
theorem m_678 : Cond.code Lib.Math.min.name Lib.Math.min.code 2 (some .int) ∈ BIG := bt3 (i := 159) (Eq.refl _) rfl
set_option maxRecDepth 100000 in
theorem m_679 : Cond.methodLink RX9 103 yX9_weighWay ∈ BIG := bt3 (i := 160) (Eq.refl _) rfl
set_option maxRecDepth 100000 in
theorem m_680 : Cond.instanceMethod yX9_weighWay ∈ BIG := bt3 (i := 161) (Eq.refl _) rfl
set_option maxRecDepth 100000 in
theorem m_681 : Cond.selects RX9 yX9_weighWay yX9_weighWay ∈ BIG := bt3 (i := 162) (Eq.refl _) rfl
set_option maxRecDepth 100000 in
theorem m_682 : Cond.code yX9_weighWay cX9_weighWay 3 none ∈ BIG := bt3 (i := 163) (Eq.refl _) rfl
set_option maxRecDepth 100000 in
theorem m_683 : Cond.methodLink RX9 107 yX9_tryCuts ∈ BIG := bt3 (i := 164) (Eq.refl _) rfl
set_option maxRecDepth 100000 in
theorem m_684 : Cond.instanceMethod yX9_tryCuts ∈ BIG := bt3 (i := 165) (Eq.refl _) rfl
set_option maxRecDepth 100000 in
theorem m_685 : Cond.selects RX9 yX9_tryCuts yX9_tryCuts ∈ BIG := bt3 (i := 166) (Eq.refl _) rfl
set_option maxRecDepth 100000 in
theorem m_686 : Cond.code yX9_tryCuts cX9_tryCuts 10 none ∈ BIG := bt3 (i := 167) (Eq.refl _) rfl
set_option maxRecDepth 100000 in
theorem m_687 : Cond.constant RX9 111 (100000) ∈ BIG := bt3 (i := 168) (Eq.refl _) rfl
set_option maxRecDepth 100000 in
theorem m_688 : Cond.constant RX11 215 (1000000) ∈ BIG := bt3 (i := 169) (Eq.refl _) rfl
set_option maxRecDepth 100000 in
theorem m_689 : Cond.methodLink RL 92 yX11_twoFirst ∈ BIG := bt3 (i := 170) (Eq.refl _) rfl
set_option maxRecDepth 100000 in
theorem m_690 : Cond.instanceMethod yX11_twoFirst ∈ BIG := bt3 (i := 171) (Eq.refl _) rfl
set_option maxRecDepth 100000 in
theorem m_691 : Cond.selects RX11 yX11_twoFirst yX11_twoFirst ∈ BIG := bt3 (i := 172) (Eq.refl _) rfl
set_option maxRecDepth 100000 in
theorem m_692 : Cond.code yX11_twoFirst cX11_twoFirst 6 (some .int) ∈ BIG := bt3 (i := 173) (Eq.refl _) rfl
set_option maxRecDepth 100000 in
theorem m_693 : Cond.methodLink RL 96 yX11_order ∈ BIG := bt3 (i := 174) (Eq.refl _) rfl
set_option maxRecDepth 100000 in
theorem m_694 : Cond.instanceMethod yX11_order ∈ BIG := bt3 (i := 175) (Eq.refl _) rfl
set_option maxRecDepth 100000 in
theorem m_695 : Cond.selects RX11 yX11_order yX11_order ∈ BIG := bt3 (i := 176) (Eq.refl _) rfl
set_option maxRecDepth 100000 in
theorem m_696 : Cond.code yX11_order cX11_order 4 (some .int) ∈ BIG := bt3 (i := 177) (Eq.refl _) rfl
set_option maxRecDepth 100000 in
theorem m_697 : Cond.methodLink RX11 222 yX6_enter ∈ BIG := bt3 (i := 178) (Eq.refl _) rfl
set_option maxRecDepth 100000 in
theorem m_698 : Cond.instanceMethod yX6_enter ∈ BIG := bt3 (i := 179) (Eq.refl _) rfl
set_option maxRecDepth 100000 in
theorem m_699 : Cond.selects RX6 yX6_enter yX6_enter ∈ BIG := bt3 (i := 180) (Eq.refl _) rfl
set_option maxRecDepth 100000 in
theorem m_700 : Cond.code yX6_enter cX6_enter 2 none ∈ BIG := bt3 (i := 181) (Eq.refl _) rfl
set_option maxRecDepth 100000 in
theorem m_701 : Cond.methodLink RL 100 yX11_unorder ∈ BIG := bt3 (i := 182) (Eq.refl _) rfl
set_option maxRecDepth 100000 in
theorem m_702 : Cond.instanceMethod yX11_unorder ∈ BIG := bt3 (i := 183) (Eq.refl _) rfl
set_option maxRecDepth 100000 in
theorem m_703 : Cond.selects RX11 yX11_unorder yX11_unorder ∈ BIG := bt3 (i := 184) (Eq.refl _) rfl
set_option maxRecDepth 100000 in
theorem m_704 : Cond.code yX11_unorder cX11_unorder 2 (some .int) ∈ BIG := bt3 (i := 185) (Eq.refl _) rfl
set_option maxRecDepth 100000 in
theorem m_705 : Cond.methodLink RX11 226 yX6_empty ∈ BIG := bt3 (i := 186) (Eq.refl _) rfl
set_option maxRecDepth 100000 in
theorem m_706 : Cond.instanceMethod yX6_empty ∈ BIG := bt3 (i := 187) (Eq.refl _) rfl
set_option maxRecDepth 100000 in
theorem m_707 : Cond.selects RX6 yX6_empty yX6_empty ∈ BIG := bt3 (i := 188) (Eq.refl _) rfl
set_option maxRecDepth 100000 in
theorem m_708 : Cond.code yX6_empty cX6_empty 1 none ∈ BIG := bt3 (i := 189) (Eq.refl _) rfl
set_option maxRecDepth 100000 in
theorem m_709 : Cond.methodLink RL 104 yX11_whole ∈ BIG := bt3 (i := 190) (Eq.refl _) rfl
set_option maxRecDepth 100000 in
theorem m_710 : Cond.instanceMethod yX11_whole ∈ BIG := bt3 (i := 191) (Eq.refl _) rfl
set_option maxRecDepth 100000 in
theorem m_711 : Cond.selects RX11 yX11_whole yX11_whole ∈ BIG := bt3 (i := 192) (Eq.refl _) rfl
set_option maxRecDepth 100000 in
theorem m_712 : Cond.code yX11_whole cX11_whole 2 (some .int) ∈ BIG := bt3 (i := 193) (Eq.refl _) rfl
set_option maxRecDepth 100000 in
theorem m_713 : Cond.methodLink RX11 227 yX6_shortest ∈ BIG := bt3 (i := 194) (Eq.refl _) rfl
set_option maxRecDepth 100000 in
theorem m_714 : Cond.instanceMethod yX6_shortest ∈ BIG := bt3 (i := 195) (Eq.refl _) rfl
set_option maxRecDepth 100000 in
theorem m_715 : Cond.selects RX6 yX6_shortest yX6_shortest ∈ BIG := bt3 (i := 196) (Eq.refl _) rfl
set_option maxRecDepth 100000 in
theorem m_716 : Cond.code yX6_shortest cX6_shortest 1 (some .int) ∈ BIG := bt3 (i := 197) (Eq.refl _) rfl
set_option maxRecDepth 100000 in
theorem m_717 : Cond.methodLink RX6 29 yX6_addUpWishes ∈ BIG := bt3 (i := 198) (Eq.refl _) rfl
set_option maxRecDepth 100000 in
theorem m_718 : Cond.instanceMethod yX6_addUpWishes ∈ BIG := bt3 (i := 199) (Eq.refl _) rfl
set_option maxRecDepth 100000 in
theorem m_719 : Cond.selects RX6 yX6_addUpWishes yX6_addUpWishes ∈ BIG := bt3 (i := 200) (Eq.refl _) rfl
set_option maxRecDepth 100000 in
theorem m_720 : Cond.code yX6_addUpWishes cX6_addUpWishes 4 none ∈ BIG := bt3 (i := 201) (Eq.refl _) rfl
set_option maxRecDepth 100000 in
theorem m_721 : Cond.methodLink RX6 33 yX6_everyAsk ∈ BIG := bt3 (i := 202) (Eq.refl _) rfl
set_option maxRecDepth 100000 in
theorem m_722 : Cond.instanceMethod yX6_everyAsk ∈ BIG := bt3 (i := 203) (Eq.refl _) rfl
set_option maxRecDepth 100000 in
theorem m_723 : Cond.selects RX6 yX6_everyAsk yX6_everyAsk ∈ BIG := bt3 (i := 204) (Eq.refl _) rfl
set_option maxRecDepth 100000 in
theorem m_724 : Cond.code yX6_everyAsk cX6_everyAsk 1 (some .int) ∈ BIG := bt3 (i := 205) (Eq.refl _) rfl
set_option maxRecDepth 100000 in
theorem m_725 : Cond.methodLink RX6 37 ⟨"WheelAndWire$OrderPlan", "workOut", "(I)V"⟩ ∈ BIG := bt3 (i := 206) (Eq.refl _) rfl
set_option maxRecDepth 100000 in
theorem m_726 : Cond.sameMethod "WheelAndWire$OrderPlan" "WheelAndWire$Plan" "workOut" "(I)V" ∈ BIG := bt3 (i := 207) (Eq.refl _) rfl
set_option maxRecDepth 100000 in
theorem m_728 : Cond.selects RX6 ⟨"WheelAndWire$OrderPlan", "workOut", "(I)V"⟩ yX8_workOut ∈ BIG := bt3 (i := 209) (Eq.refl _) rfl
set_option maxRecDepth 100000 in
theorem m_729 : Cond.instanceMethod yX8_workOut ∈ BIG := bt3 (i := 210) (Eq.refl _) rfl
set_option maxRecDepth 100000 in
theorem m_730 : Cond.code yX8_workOut cX8_workOut 6 none ∈ BIG := bt3 (i := 211) (Eq.refl _) rfl
set_option maxRecDepth 100000 in
theorem m_731 : Cond.methodLink RX8 37 Lib.Math.min.name ∈ BIG := bt3 (i := 212) (Eq.refl _) rfl
set_option maxRecDepth 100000 in
theorem m_732 : Cond.methodLink RX8 40 yX8_settle ∈ BIG := bt3 (i := 213) (Eq.refl _) rfl
set_option maxRecDepth 100000 in
theorem m_733 : Cond.instanceMethod yX8_settle ∈ BIG := bt3 (i := 214) (Eq.refl _) rfl
set_option maxRecDepth 100000 in
theorem m_734 : Cond.sameMethod "WheelAndWire$Plan" "WheelAndWire$Plan" "settle" "(IIIII)V" ∈ BIG := bt3 (i := 215) (Eq.refl _) rfl
set_option maxRecDepth 100000 in
theorem m_735 : Cond.selects RX3 yX8_settle yX8_settle ∈ BIG := bt3 (i := 216) (Eq.refl _) rfl
set_option maxRecDepth 100000 in
theorem m_736 : Cond.selects RX5 yX8_settle yX8_settle ∈ BIG := bt3 (i := 217) (Eq.refl _) rfl
set_option maxRecDepth 100000 in
theorem m_737 : Cond.selects RX6 yX8_settle yX8_settle ∈ BIG := bt3 (i := 218) (Eq.refl _) rfl
set_option maxRecDepth 100000 in
theorem m_738 : Cond.code yX8_settle cX8_settle 9 none ∈ BIG := bt3 (i := 219) (Eq.refl _) rfl
set_option maxRecDepth 100000 in
theorem m_739 : Cond.methodLink RX8 44 yX8_spotOf ∈ BIG := bt3 (i := 220) (Eq.refl _) rfl
set_option maxRecDepth 100000 in
theorem m_740 : Cond.instanceMethod yX8_spotOf ∈ BIG := bt3 (i := 221) (Eq.refl _) rfl
set_option maxRecDepth 100000 in
theorem m_741 : Cond.sameMethod "WheelAndWire$Plan" "WheelAndWire$Plan" "spotOf" "(IIII)I" ∈ BIG := bt3 (i := 222) (Eq.refl _) rfl
set_option maxRecDepth 100000 in
theorem m_742 : Cond.selects RX3 yX8_spotOf yX8_spotOf ∈ BIG := bt3 (i := 223) (Eq.refl _) rfl
set_option maxRecDepth 100000 in
theorem m_743 : Cond.selects RX5 yX8_spotOf yX8_spotOf ∈ BIG := bt3 (i := 224) (Eq.refl _) rfl
set_option maxRecDepth 100000 in
theorem m_744 : Cond.selects RX6 yX8_spotOf yX8_spotOf ∈ BIG := bt3 (i := 225) (Eq.refl _) rfl
set_option maxRecDepth 100000 in
theorem m_745 : Cond.code yX8_spotOf cX8_spotOf 7 (some .int) ∈ BIG := bt3 (i := 226) (Eq.refl _) rfl
set_option maxRecDepth 100000 in
theorem m_746 : Cond.methodLink RX8 48 ⟨"WheelAndWire$Plan", "verdict", "(IIIII)I"⟩ ∈ BIG := bt3 (i := 227) (Eq.refl _) rfl
set_option maxRecDepth 100000 in
theorem m_748 : Cond.sameMethod "WheelAndWire$Plan" "WheelAndWire$Plan" "verdict" "(IIIII)I" ∈ BIG := bt3 (i := 229) (Eq.refl _) rfl
set_option maxRecDepth 100000 in
theorem m_749 : Cond.selects RX3 ⟨"WheelAndWire$Plan", "verdict", "(IIIII)I"⟩ yX3_verdict ∈ BIG := bt3 (i := 230) (Eq.refl _) rfl
set_option maxRecDepth 100000 in
theorem m_750 : Cond.instanceMethod yX3_verdict ∈ BIG := bt3 (i := 231) (Eq.refl _) rfl
set_option maxRecDepth 100000 in
theorem m_751 : Cond.code yX3_verdict cX3_verdict 8 (some .int) ∈ BIG := bt3 (i := 232) (Eq.refl _) rfl
set_option maxRecDepth 100000 in
theorem m_752 : Cond.methodLink RX3 27 yX4_weightIn ∈ BIG := bt3 (i := 233) (Eq.refl _) rfl
set_option maxRecDepth 100000 in
theorem m_753 : Cond.constant RX3 34 (1000000) ∈ BIG := bt3 (i := 234) (Eq.refl _) rfl
set_option maxRecDepth 100000 in
theorem m_754 : Cond.methodLink RX3 31 yX4_rindIn ∈ BIG := bt3 (i := 235) (Eq.refl _) rfl
set_option maxRecDepth 100000 in
theorem m_755 : Cond.selects RX5 ⟨"WheelAndWire$Plan", "verdict", "(IIIII)I"⟩ yX5_verdict ∈ BIG := bt3 (i := 236) (Eq.refl _) rfl
set_option maxRecDepth 100000 in
theorem m_756 : Cond.instanceMethod yX5_verdict ∈ BIG := bt3 (i := 237) (Eq.refl _) rfl
set_option maxRecDepth 100000 in
theorem m_757 : Cond.code yX5_verdict cX5_verdict 10 (some .int) ∈ BIG := bt3 (i := 238) (Eq.refl _) rfl
set_option maxRecDepth 100000 in
theorem m_758 : Cond.methodLink RX5 32 yX5_isApart ∈ BIG := bt3 (i := 239) (Eq.refl _) rfl
set_option maxRecDepth 100000 in
theorem m_759 : Cond.instanceMethod yX5_isApart ∈ BIG := bt4 (i := 0) (Eq.refl _) rfl
set_option maxRecDepth 100000 in
theorem m_760 : Cond.selects RX5 yX5_isApart yX5_isApart ∈ BIG := bt4 (i := 1) (Eq.refl _) rfl
set_option maxRecDepth 100000 in
theorem m_761 : Cond.code yX5_isApart cX5_isApart 6 (some .boolean) ∈ BIG := bt4 (i := 2) (Eq.refl _) rfl
set_option maxRecDepth 100000 in
theorem m_762 : Cond.constant RX5 44 (1000000) ∈ BIG := bt4 (i := 3) (Eq.refl _) rfl
set_option maxRecDepth 100000 in
theorem m_763 : Cond.selects RX6 ⟨"WheelAndWire$Plan", "verdict", "(IIIII)I"⟩ yX6_verdict ∈ BIG := bt4 (i := 4) (Eq.refl _) rfl
set_option maxRecDepth 100000 in
theorem m_764 : Cond.instanceMethod yX6_verdict ∈ BIG := bt4 (i := 5) (Eq.refl _) rfl
set_option maxRecDepth 100000 in
theorem m_765 : Cond.code yX6_verdict cX6_verdict 8 (some .int) ∈ BIG := bt4 (i := 6) (Eq.refl _) rfl
set_option maxRecDepth 100000 in
theorem m_766 : Cond.methodLink RX6 65 yX4_weightIn ∈ BIG := bt4 (i := 7) (Eq.refl _) rfl
set_option maxRecDepth 100000 in
theorem m_767 : Cond.constant RX6 48 (1000000) ∈ BIG := bt4 (i := 8) (Eq.refl _) rfl
set_option maxRecDepth 100000 in
theorem m_768 : Cond.methodLink RX6 69 yX4_rindIn ∈ BIG := bt4 (i := 9) (Eq.refl _) rfl
set_option maxRecDepth 100000 in
theorem m_769 : Cond.methodLink RX6 72 yX0_fits ∈ BIG := bt4 (i := 10) (Eq.refl _) rfl
set_option maxRecDepth 100000 in
theorem m_770 : Cond.methodLink RX8 52 yX8_leastCut ∈ BIG := bt4 (i := 11) (Eq.refl _) rfl
set_option maxRecDepth 100000 in
theorem m_771 : Cond.instanceMethod yX8_leastCut ∈ BIG := bt4 (i := 12) (Eq.refl _) rfl
set_option maxRecDepth 100000 in
theorem m_772 : Cond.sameMethod "WheelAndWire$Plan" "WheelAndWire$Plan" "leastCut" "(IIIII)I" ∈ BIG := bt4 (i := 13) (Eq.refl _) rfl
set_option maxRecDepth 100000 in
theorem m_773 : Cond.selects RX3 yX8_leastCut yX8_leastCut ∈ BIG := bt4 (i := 14) (Eq.refl _) rfl
set_option maxRecDepth 100000 in
theorem m_774 : Cond.selects RX5 yX8_leastCut yX8_leastCut ∈ BIG := bt4 (i := 15) (Eq.refl _) rfl
set_option maxRecDepth 100000 in
theorem m_775 : Cond.selects RX6 yX8_leastCut yX8_leastCut ∈ BIG := bt4 (i := 16) (Eq.refl _) rfl
set_option maxRecDepth 100000 in
theorem m_776 : Cond.code yX8_leastCut cX8_leastCut 8 (some .int) ∈ BIG := bt4 (i := 17) (Eq.refl _) rfl
set_option maxRecDepth 100000 in
theorem m_777 : Cond.constant RX8 55 (1000000) ∈ BIG := bt4 (i := 18) (Eq.refl _) rfl
set_option maxRecDepth 100000 in
theorem m_778 : Cond.methodLink RX8 56 yX8_cutCost ∈ BIG := bt4 (i := 19) (Eq.refl _) rfl
set_option maxRecDepth 100000 in
theorem m_779 : Cond.instanceMethod yX8_cutCost ∈ BIG := bt4 (i := 20) (Eq.refl _) rfl
set_option maxRecDepth 100000 in
theorem m_780 : Cond.sameMethod "WheelAndWire$Plan" "WheelAndWire$Plan" "cutCost" "(IIIIZII)I" ∈ BIG := bt4 (i := 21) (Eq.refl _) rfl
set_option maxRecDepth 100000 in
theorem m_781 : Cond.selects RX3 yX8_cutCost yX8_cutCost ∈ BIG := bt4 (i := 22) (Eq.refl _) rfl
set_option maxRecDepth 100000 in
theorem m_782 : Cond.selects RX5 yX8_cutCost yX8_cutCost ∈ BIG := bt4 (i := 23) (Eq.refl _) rfl
set_option maxRecDepth 100000 in
theorem m_783 : Cond.selects RX6 yX8_cutCost yX8_cutCost ∈ BIG := bt4 (i := 24) (Eq.refl _) rfl
set_option maxRecDepth 100000 in
theorem m_784 : Cond.code yX8_cutCost cX8_cutCost 10 (some .int) ∈ BIG := bt4 (i := 25) (Eq.refl _) rfl
set_option maxRecDepth 100000 in
theorem m_785 : Cond.methodLink RX8 60 ⟨"WheelAndWire$Plan", "cutPrice", "(I)I"⟩ ∈ BIG := bt4 (i := 26) (Eq.refl _) rfl
set_option maxRecDepth 100000 in
theorem m_787 : Cond.sameMethod "WheelAndWire$Plan" "WheelAndWire$Plan" "cutPrice" "(I)I" ∈ BIG := bt4 (i := 28) (Eq.refl _) rfl
set_option maxRecDepth 100000 in
theorem m_788 : Cond.selects RX3 ⟨"WheelAndWire$Plan", "cutPrice", "(I)I"⟩ yX3_cutPrice ∈ BIG := bt4 (i := 29) (Eq.refl _) rfl
set_option maxRecDepth 100000 in
theorem m_789 : Cond.instanceMethod yX3_cutPrice ∈ BIG := bt4 (i := 30) (Eq.refl _) rfl
set_option maxRecDepth 100000 in
theorem m_790 : Cond.code yX3_cutPrice cX3_cutPrice 2 (some .int) ∈ BIG := bt4 (i := 31) (Eq.refl _) rfl
set_option maxRecDepth 100000 in
theorem m_791 : Cond.selects RX5 ⟨"WheelAndWire$Plan", "cutPrice", "(I)I"⟩ yX5_cutPrice ∈ BIG := bt4 (i := 32) (Eq.refl _) rfl
set_option maxRecDepth 100000 in
theorem m_792 : Cond.instanceMethod yX5_cutPrice ∈ BIG := bt4 (i := 33) (Eq.refl _) rfl
set_option maxRecDepth 100000 in
theorem m_793 : Cond.code yX5_cutPrice cX5_cutPrice 2 (some .int) ∈ BIG := bt4 (i := 34) (Eq.refl _) rfl
set_option maxRecDepth 100000 in
theorem m_794 : Cond.selects RX6 ⟨"WheelAndWire$Plan", "cutPrice", "(I)I"⟩ yX6_cutPrice ∈ BIG := bt4 (i := 35) (Eq.refl _) rfl
set_option maxRecDepth 100000 in
theorem m_795 : Cond.instanceMethod yX6_cutPrice ∈ BIG := bt4 (i := 36) (Eq.refl _) rfl
set_option maxRecDepth 100000 in
theorem m_796 : Cond.code yX6_cutPrice cX6_cutPrice 2 (some .int) ∈ BIG := bt4 (i := 37) (Eq.refl _) rfl
set_option maxRecDepth 100000 in
theorem m_797 : Cond.methodLink RX8 64 yX8_bothCost ∈ BIG := bt4 (i := 38) (Eq.refl _) rfl
set_option maxRecDepth 100000 in
theorem m_798 : Cond.instanceMethod yX8_bothCost ∈ BIG := bt4 (i := 39) (Eq.refl _) rfl
set_option maxRecDepth 100000 in
theorem m_799 : Cond.sameMethod "WheelAndWire$Plan" "WheelAndWire$Plan" "bothCost" "(III)I" ∈ BIG := bt4 (i := 40) (Eq.refl _) rfl
set_option maxRecDepth 100000 in
theorem m_800 : Cond.selects RX3 yX8_bothCost yX8_bothCost ∈ BIG := bt4 (i := 41) (Eq.refl _) rfl
set_option maxRecDepth 100000 in
theorem m_801 : Cond.selects RX5 yX8_bothCost yX8_bothCost ∈ BIG := bt4 (i := 42) (Eq.refl _) rfl
set_option maxRecDepth 100000 in
theorem m_802 : Cond.selects RX6 yX8_bothCost yX8_bothCost ∈ BIG := bt4 (i := 43) (Eq.refl _) rfl
set_option maxRecDepth 100000 in
theorem m_803 : Cond.code yX8_bothCost cX8_bothCost 7 (some .int) ∈ BIG := bt4 (i := 44) (Eq.refl _) rfl
set_option maxRecDepth 100000 in
theorem m_804 : Cond.methodLink RX6 41 ⟨"WheelAndWire$OrderPlan", "costOfAll", "(I)I"⟩ ∈ BIG := bt4 (i := 45) (Eq.refl _) rfl
set_option maxRecDepth 100000 in
theorem m_805 : Cond.sameMethod "WheelAndWire$OrderPlan" "WheelAndWire$Plan" "costOfAll" "(I)I" ∈ BIG := bt4 (i := 46) (Eq.refl _) rfl
set_option maxRecDepth 100000 in
theorem m_807 : Cond.selects RX6 ⟨"WheelAndWire$OrderPlan", "costOfAll", "(I)I"⟩ yX8_costOfAll ∈ BIG := bt4 (i := 48) (Eq.refl _) rfl
set_option maxRecDepth 100000 in
theorem m_808 : Cond.instanceMethod yX8_costOfAll ∈ BIG := bt4 (i := 49) (Eq.refl _) rfl
set_option maxRecDepth 100000 in
theorem m_809 : Cond.code yX8_costOfAll cX8_costOfAll 2 (some .int) ∈ BIG := bt4 (i := 50) (Eq.refl _) rfl
set_option maxRecDepth 100000 in
theorem m_810 : Cond.methodLink RL 108 yX11_first ∈ BIG := bt4 (i := 51) (Eq.refl _) rfl
set_option maxRecDepth 100000 in
theorem m_811 : Cond.instanceMethod yX11_first ∈ BIG := bt4 (i := 52) (Eq.refl _) rfl
set_option maxRecDepth 100000 in
theorem m_812 : Cond.selects RX11 yX11_first yX11_first ∈ BIG := bt4 (i := 53) (Eq.refl _) rfl
set_option maxRecDepth 100000 in
theorem m_813 : Cond.code yX11_first cX11_first 1 (some .int) ∈ BIG := bt4 (i := 54) (Eq.refl _) rfl
set_option maxRecDepth 100000 in
theorem m_814 : Cond.methodLink RX11 230 yX6_firstCut ∈ BIG := bt4 (i := 55) (Eq.refl _) rfl
set_option maxRecDepth 100000 in
theorem m_815 : Cond.instanceMethod yX6_firstCut ∈ BIG := bt4 (i := 56) (Eq.refl _) rfl
set_option maxRecDepth 100000 in
theorem m_816 : Cond.selects RX6 yX6_firstCut yX6_firstCut ∈ BIG := bt4 (i := 57) (Eq.refl _) rfl
set_option maxRecDepth 100000 in
theorem m_817 : Cond.code yX6_firstCut cX6_firstCut 3 (some .int) ∈ BIG := bt4 (i := 58) (Eq.refl _) rfl
set_option maxRecDepth 100000 in
theorem m_818 : Cond.methodLink RX6 61 ⟨"WheelAndWire$OrderPlan", "cutCost", "(IIIIZII)I"⟩ ∈ BIG := bt4 (i := 59) (Eq.refl _) rfl
set_option maxRecDepth 100000 in
theorem m_819 : Cond.sameMethod "WheelAndWire$OrderPlan" "WheelAndWire$Plan" "cutCost" "(IIIIZII)I" ∈ BIG := bt4 (i := 60) (Eq.refl _) rfl
set_option maxRecDepth 100000 in
theorem m_821 : Cond.selects RX6 ⟨"WheelAndWire$OrderPlan", "cutCost", "(IIIIZII)I"⟩ yX8_cutCost ∈ BIG := bt4 (i := 62) (Eq.refl _) rfl
set_option maxRecDepth 100000 in
theorem m_822 : Cond.methodLink RL 112 yX11_fair ∈ BIG := bt4 (i := 63) (Eq.refl _) rfl
set_option maxRecDepth 100000 in
theorem m_823 : Cond.instanceMethod yX11_fair ∈ BIG := bt4 (i := 64) (Eq.refl _) rfl
set_option maxRecDepth 100000 in
theorem m_824 : Cond.selects RX11 yX11_fair yX11_fair ∈ BIG := bt4 (i := 65) (Eq.refl _) rfl
set_option maxRecDepth 100000 in
theorem m_825 : Cond.code yX11_fair cX11_fair 3 (some .int) ∈ BIG := bt4 (i := 66) (Eq.refl _) rfl
set_option maxRecDepth 100000 in
theorem m_826 : Cond.methodLink RX11 233 yX3_shortest ∈ BIG := bt4 (i := 67) (Eq.refl _) rfl
set_option maxRecDepth 100000 in
theorem m_827 : Cond.instanceMethod yX3_shortest ∈ BIG := bt4 (i := 68) (Eq.refl _) rfl
set_option maxRecDepth 100000 in
theorem m_828 : Cond.selects RX3 yX3_shortest yX3_shortest ∈ BIG := bt4 (i := 69) (Eq.refl _) rfl
set_option maxRecDepth 100000 in
theorem m_829 : Cond.code yX3_shortest cX3_shortest 4 (some .int) ∈ BIG := bt4 (i := 70) (Eq.refl _) rfl
set_option maxRecDepth 100000 in
theorem m_830 : Cond.methodLink RX3 38 ⟨"WheelAndWire$FairPlan", "workOut", "(I)V"⟩ ∈ BIG := bt4 (i := 71) (Eq.refl _) rfl
set_option maxRecDepth 100000 in
theorem m_831 : Cond.sameMethod "WheelAndWire$FairPlan" "WheelAndWire$Plan" "workOut" "(I)V" ∈ BIG := bt4 (i := 72) (Eq.refl _) rfl
set_option maxRecDepth 100000 in
theorem m_832 : Cond.selects RX3 ⟨"WheelAndWire$FairPlan", "workOut", "(I)V"⟩ yX8_workOut ∈ BIG := bt4 (i := 73) (Eq.refl _) rfl
set_option maxRecDepth 100000 in
theorem m_833 : Cond.methodLink RX3 42 ⟨"WheelAndWire$FairPlan", "costOfAll", "(I)I"⟩ ∈ BIG := bt4 (i := 74) (Eq.refl _) rfl
set_option maxRecDepth 100000 in
theorem m_834 : Cond.sameMethod "WheelAndWire$FairPlan" "WheelAndWire$Plan" "costOfAll" "(I)I" ∈ BIG := bt4 (i := 75) (Eq.refl _) rfl
set_option maxRecDepth 100000 in
theorem m_835 : Cond.selects RX3 ⟨"WheelAndWire$FairPlan", "costOfAll", "(I)I"⟩ yX8_costOfAll ∈ BIG := bt4 (i := 76) (Eq.refl _) rfl
set_option maxRecDepth 100000 in
theorem m_836 : Cond.methodLink RL 116 yX11_left ∈ BIG := bt4 (i := 77) (Eq.refl _) rfl
set_option maxRecDepth 100000 in
theorem m_837 : Cond.instanceMethod yX11_left ∈ BIG := bt4 (i := 78) (Eq.refl _) rfl
set_option maxRecDepth 100000 in
theorem m_838 : Cond.selects RX11 yX11_left yX11_left ∈ BIG := bt4 (i := 79) (Eq.refl _) rfl
set_option maxRecDepth 100000 in
theorem m_839 : Cond.code yX11_left cX11_left 6 (some .int) ∈ BIG := bt4 (i := 80) (Eq.refl _) rfl
set_option maxRecDepth 100000 in
theorem m_840 : Cond.methodLink RX11 235 yX5_touches ∈ BIG := bt4 (i := 81) (Eq.refl _) rfl
set_option maxRecDepth 100000 in
theorem m_841 : Cond.instanceMethod yX5_touches ∈ BIG := bt4 (i := 82) (Eq.refl _) rfl
set_option maxRecDepth 100000 in
theorem m_842 : Cond.selects RX5 yX5_touches yX5_touches ∈ BIG := bt4 (i := 83) (Eq.refl _) rfl
set_option maxRecDepth 100000 in
theorem m_843 : Cond.code yX5_touches cX5_touches 6 (some .boolean) ∈ BIG := bt4 (i := 84) (Eq.refl _) rfl
set_option maxRecDepth 100000 in
theorem m_844 : Cond.methodLink RX11 239 yX5_enter ∈ BIG := bt4 (i := 85) (Eq.refl _) rfl
set_option maxRecDepth 100000 in
theorem m_845 : Cond.instanceMethod yX5_enter ∈ BIG := bt4 (i := 86) (Eq.refl _) rfl
set_option maxRecDepth 100000 in
theorem m_846 : Cond.selects RX5 yX5_enter yX5_enter ∈ BIG := bt4 (i := 87) (Eq.refl _) rfl
set_option maxRecDepth 100000 in
theorem m_847 : Cond.code yX5_enter cX5_enter 5 none ∈ BIG := bt4 (i := 88) (Eq.refl _) rfl
set_option maxRecDepth 100000 in
theorem m_848 : Cond.methodLink RL 120 yX11_read ∈ BIG := bt4 (i := 89) (Eq.refl _) rfl
set_option maxRecDepth 100000 in
theorem m_849 : Cond.instanceMethod yX11_read ∈ BIG := bt4 (i := 90) (Eq.refl _) rfl
set_option maxRecDepth 100000 in
theorem m_850 : Cond.selects RX11 yX11_read yX11_read ∈ BIG := bt4 (i := 91) (Eq.refl _) rfl
set_option maxRecDepth 100000 in
theorem m_851 : Cond.code yX11_read cX11_read 2 (some .int) ∈ BIG := bt4 (i := 92) (Eq.refl _) rfl
set_option maxRecDepth 100000 in
theorem m_852 : Cond.methodLink RX11 242 yX5_fewest ∈ BIG := bt4 (i := 93) (Eq.refl _) rfl
set_option maxRecDepth 100000 in
theorem m_853 : Cond.instanceMethod yX5_fewest ∈ BIG := bt4 (i := 94) (Eq.refl _) rfl
set_option maxRecDepth 100000 in
theorem m_854 : Cond.selects RX5 yX5_fewest yX5_fewest ∈ BIG := bt4 (i := 95) (Eq.refl _) rfl
set_option maxRecDepth 100000 in
theorem m_855 : Cond.code yX5_fewest cX5_fewest 1 (some .int) ∈ BIG := bt4 (i := 96) (Eq.refl _) rfl
set_option maxRecDepth 100000 in
theorem m_856 : Cond.methodLink RX5 36 ⟨"WheelAndWire$LeftPlan", "workOut", "(I)V"⟩ ∈ BIG := bt4 (i := 97) (Eq.refl _) rfl
set_option maxRecDepth 100000 in
theorem m_857 : Cond.sameMethod "WheelAndWire$LeftPlan" "WheelAndWire$Plan" "workOut" "(I)V" ∈ BIG := bt4 (i := 98) (Eq.refl _) rfl
set_option maxRecDepth 100000 in
theorem m_858 : Cond.selects RX5 ⟨"WheelAndWire$LeftPlan", "workOut", "(I)V"⟩ yX8_workOut ∈ BIG := bt4 (i := 99) (Eq.refl _) rfl
set_option maxRecDepth 100000 in
theorem m_859 : Cond.methodLink RX5 40 ⟨"WheelAndWire$LeftPlan", "costOfAll", "(I)I"⟩ ∈ BIG := bt4 (i := 100) (Eq.refl _) rfl
set_option maxRecDepth 100000 in
theorem m_860 : Cond.sameMethod "WheelAndWire$LeftPlan" "WheelAndWire$Plan" "costOfAll" "(I)I" ∈ BIG := bt4 (i := 101) (Eq.refl _) rfl
set_option maxRecDepth 100000 in
theorem m_861 : Cond.selects RX5 ⟨"WheelAndWire$LeftPlan", "costOfAll", "(I)I"⟩ yX8_costOfAll ∈ BIG := bt4 (i := 102) (Eq.refl _) rfl
set_option maxRecDepth 100000 in
theorem m_862 : Cond.methodLink RL 124 yX11_unleft ∈ BIG := bt4 (i := 103) (Eq.refl _) rfl
set_option maxRecDepth 100000 in
theorem m_863 : Cond.instanceMethod yX11_unleft ∈ BIG := bt4 (i := 104) (Eq.refl _) rfl
set_option maxRecDepth 100000 in
theorem m_864 : Cond.selects RX11 yX11_unleft yX11_unleft ∈ BIG := bt4 (i := 105) (Eq.refl _) rfl
set_option maxRecDepth 100000 in
theorem m_865 : Cond.code yX11_unleft cX11_unleft 2 (some .int) ∈ BIG := bt4 (i := 106) (Eq.refl _) rfl
set_option maxRecDepth 100000 in
theorem m_866 : Cond.methodLink RL 128 yX11_ripens ∈ BIG := bt4 (i := 107) (Eq.refl _) rfl
set_option maxRecDepth 100000 in
theorem m_867 : Cond.instanceMethod yX11_ripens ∈ BIG := bt4 (i := 108) (Eq.refl _) rfl
set_option maxRecDepth 100000 in
theorem m_868 : Cond.selects RX11 yX11_ripens yX11_ripens ∈ BIG := bt4 (i := 109) (Eq.refl _) rfl
set_option maxRecDepth 100000 in
theorem m_869 : Cond.code yX11_ripens cX11_ripens 4 (some .int) ∈ BIG := bt4 (i := 110) (Eq.refl _) rfl
set_option maxRecDepth 100000 in
theorem m_870 : Cond.methodLink RL 132 yX11_ripe ∈ BIG := bt4 (i := 111) (Eq.refl _) rfl
set_option maxRecDepth 100000 in
theorem m_871 : Cond.instanceMethod yX11_ripe ∈ BIG := bt4 (i := 112) (Eq.refl _) rfl
set_option maxRecDepth 100000 in
theorem m_872 : Cond.selects RX11 yX11_ripe yX11_ripe ∈ BIG := bt4 (i := 113) (Eq.refl _) rfl
set_option maxRecDepth 100000 in
theorem m_873 : Cond.code yX11_ripe cX11_ripe 9 (some .long) ∈ BIG := bt4 (i := 114) (Eq.refl _) rfl
set_option maxRecDepth 100000 in
theorem m_874 : Cond.constantLong RX11 251 (-1) ∈ BIG := bt4 (i := 115) (Eq.refl _) rfl
set_option maxRecDepth 100000 in
theorem m_875 : Cond.constantLong RX11 253 (-2) ∈ BIG := bt4 (i := 116) (Eq.refl _) rfl
set_option maxRecDepth 100000 in
theorem m_876 : Cond.methodLink RX11 255 yX7_ripePlaces ∈ BIG := bt4 (i := 117) (Eq.refl _) rfl
set_option maxRecDepth 100000 in
theorem m_877 : Cond.instanceMethod yX7_ripePlaces ∈ BIG := bt4 (i := 118) (Eq.refl _) rfl
set_option maxRecDepth 100000 in
theorem m_878 : Cond.selects RX7 yX7_ripePlaces yX7_ripePlaces ∈ BIG := bt4 (i := 119) (Eq.refl _) rfl
set_option maxRecDepth 100000 in
theorem m_879 : Cond.code yX7_ripePlaces cX7_ripePlaces 6 (some .int) ∈ BIG := bt4 (i := 120) (Eq.refl _) rfl
set_option maxRecDepth 100000 in
theorem m_880 : Cond.methodLink RX7 110 yX4_isRipe ∈ BIG := bt4 (i := 121) (Eq.refl _) rfl
set_option maxRecDepth 100000 in
theorem m_881 : Cond.instanceMethod yX4_isRipe ∈ BIG := bt4 (i := 122) (Eq.refl _) rfl
set_option maxRecDepth 100000 in
theorem m_882 : Cond.selects RX4 yX4_isRipe yX4_isRipe ∈ BIG := bt4 (i := 123) (Eq.refl _) rfl
set_option maxRecDepth 100000 in
theorem m_883 : Cond.code yX4_isRipe cX4_isRipe 6 (some .boolean) ∈ BIG := bt4 (i := 124) (Eq.refl _) rfl
set_option maxRecDepth 100000 in
theorem m_884 : Cond.methodLink RX4 64 Lib.Math.min.name ∈ BIG := bt4 (i := 125) (Eq.refl _) rfl
set_option maxRecDepth 100000 in
theorem m_885 : Cond.methodLink RX11 259 yX7_pastePlaces ∈ BIG := bt4 (i := 126) (Eq.refl _) rfl
set_option maxRecDepth 100000 in
theorem m_886 : Cond.instanceMethod yX7_pastePlaces ∈ BIG := bt4 (i := 127) (Eq.refl _) rfl
set_option maxRecDepth 100000 in
theorem m_887 : Cond.selects RX7 yX7_pastePlaces yX7_pastePlaces ∈ BIG := bt4 (i := 128) (Eq.refl _) rfl
set_option maxRecDepth 100000 in
theorem m_888 : Cond.code yX7_pastePlaces cX7_pastePlaces 5 (some .int) ∈ BIG := bt4 (i := 129) (Eq.refl _) rfl
set_option maxRecDepth 100000 in
theorem m_889 : Cond.methodLink RX7 107 yX4_kindAt ∈ BIG := bt4 (i := 130) (Eq.refl _) rfl
set_option maxRecDepth 100000 in
theorem m_890 : Cond.methodLink RX11 262 Lib.Math.max.name ∈ BIG := bt4 (i := 131) (Eq.refl _) rfl
set_option maxRecDepth 100000 in
theorem m_891 : Cond.methodLink RX11 267 yX11_commonDivisor ∈ BIG := bt4 (i := 132) (Eq.refl _) rfl
set_option maxRecDepth 100000 in
theorem m_892 : Cond.static yX11_commonDivisor ∈ BIG := bt4 (i := 133) (Eq.refl _) rfl
set_option maxRecDepth 100000 in
theorem m_893 : Cond.code yX11_commonDivisor cX11_commonDivisor 11 (some .long) ∈ BIG := bt4 (i := 134) (Eq.refl _) rfl
set_option maxRecDepth 100000 in
theorem m_894 : Cond.methodLink RX11 312 Lib.MathLoose.abs_long.x ∈ BIG := bt4 (i := 135) (Eq.refl _) rfl
set_option maxRecDepth 100000 in
theorem m_895 : Cond.static Lib.MathLoose.abs_long.x ∈ BIG := bt4 (i := 136) (Eq.refl _) rfl
set_option maxRecDepth 100000 in
theorem m_896 : Cond.code Lib.MathLoose.abs_long.x Lib.MathLoose.abs_long.code 2 (some .long) ∈ BIG := bt4 (i := 137) (Eq.refl _) rfl
set_option maxRecDepth 100000 in
theorem m_897 : Cond.methodLink RX11 316 Lib.MathLoose.max_long.x ∈ BIG := bt4 (i := 138) (Eq.refl _) rfl
set_option maxRecDepth 100000 in
theorem m_898 : Cond.static Lib.MathLoose.max_long.x ∈ BIG := bt4 (i := 139) (Eq.refl _) rfl
set_option maxRecDepth 100000 in
theorem m_899 : Cond.code Lib.MathLoose.max_long.x Lib.MathLoose.max_long.code 4 (some .long) ∈ BIG := bt4 (i := 140) (Eq.refl _) rfl
set_option maxRecDepth 100000 in
theorem m_900 : Cond.methodLink RL 137 yX11_ripest ∈ BIG := bt4 (i := 141) (Eq.refl _) rfl
set_option maxRecDepth 100000 in
theorem m_901 : Cond.instanceMethod yX11_ripest ∈ BIG := bt4 (i := 142) (Eq.refl _) rfl
set_option maxRecDepth 100000 in
theorem m_902 : Cond.selects RX11 yX11_ripest yX11_ripest ∈ BIG := bt4 (i := 143) (Eq.refl _) rfl
set_option maxRecDepth 100000 in
theorem m_903 : Cond.code yX11_ripest cX11_ripest 2 (some .int) ∈ BIG := bt4 (i := 144) (Eq.refl _) rfl
set_option maxRecDepth 100000 in
theorem m_904 : Cond.methodLink RX11 271 yX1_ripestPiece ∈ BIG := bt4 (i := 145) (Eq.refl _) rfl
set_option maxRecDepth 100000 in
theorem m_905 : Cond.instanceMethod yX1_ripestPiece ∈ BIG := bt4 (i := 146) (Eq.refl _) rfl
set_option maxRecDepth 100000 in
theorem m_906 : Cond.selects RX1 yX1_ripestPiece yX1_ripestPiece ∈ BIG := bt4 (i := 147) (Eq.refl _) rfl
set_option maxRecDepth 100000 in
theorem m_907 : Cond.code yX1_ripestPiece cX1_ripestPiece 8 (some .int) ∈ BIG := bt4 (i := 148) (Eq.refl _) rfl
set_option maxRecDepth 100000 in
theorem m_908 : Cond.methodLink RX1 59 yX7_ripePlaces ∈ BIG := bt4 (i := 149) (Eq.refl _) rfl
set_option maxRecDepth 100000 in
theorem m_909 : Cond.methodLink RX1 63 yX7_pastePlaces ∈ BIG := bt4 (i := 150) (Eq.refl _) rfl
set_option maxRecDepth 100000 in
theorem m_910 : Cond.methodLink RX1 67 Lib.Math.max.name ∈ BIG := bt4 (i := 151) (Eq.refl _) rfl
set_option maxRecDepth 100000 in
theorem m_911 : Cond.methodLink RL 141 yX11_book ∈ BIG := bt4 (i := 152) (Eq.refl _) rfl
set_option maxRecDepth 100000 in
theorem m_912 : Cond.instanceMethod yX11_book ∈ BIG := bt4 (i := 153) (Eq.refl _) rfl
set_option maxRecDepth 100000 in
theorem m_913 : Cond.selects RX11 yX11_book yX11_book ∈ BIG := bt4 (i := 154) (Eq.refl _) rfl
set_option maxRecDepth 100000 in
theorem m_914 : Cond.code yX11_book cX11_book 2 (some .int) ∈ BIG := bt4 (i := 155) (Eq.refl _) rfl
set_option maxRecDepth 100000 in
theorem m_915 : Cond.methodLink RX11 277 yX2_enter ∈ BIG := bt4 (i := 156) (Eq.refl _) rfl
set_option maxRecDepth 100000 in
theorem m_916 : Cond.instanceMethod yX2_enter ∈ BIG := bt4 (i := 157) (Eq.refl _) rfl
set_option maxRecDepth 100000 in
theorem m_917 : Cond.selects RX2 yX2_enter yX2_enter ∈ BIG := bt4 (i := 158) (Eq.refl _) rfl
set_option maxRecDepth 100000 in
theorem m_918 : Cond.code yX2_enter cX2_enter 2 none ∈ BIG := bt4 (i := 159) (Eq.refl _) rfl
set_option maxRecDepth 100000 in
theorem m_919 : Cond.methodLink RL 145 yX11_over ∈ BIG := bt4 (i := 160) (Eq.refl _) rfl
set_option maxRecDepth 100000 in
theorem m_920 : Cond.instanceMethod yX11_over ∈ BIG := bt4 (i := 161) (Eq.refl _) rfl
set_option maxRecDepth 100000 in
theorem m_921 : Cond.selects RX11 yX11_over yX11_over ∈ BIG := bt4 (i := 162) (Eq.refl _) rfl
set_option maxRecDepth 100000 in
theorem m_922 : Cond.code yX11_over cX11_over 2 (some .int) ∈ BIG := bt4 (i := 163) (Eq.refl _) rfl
set_option maxRecDepth 100000 in
theorem m_923 : Cond.methodLink RX11 279 yX2_earnings ∈ BIG := bt4 (i := 164) (Eq.refl _) rfl
set_option maxRecDepth 100000 in
theorem m_924 : Cond.instanceMethod yX2_earnings ∈ BIG := bt4 (i := 165) (Eq.refl _) rfl
set_option maxRecDepth 100000 in
theorem m_925 : Cond.selects RX2 yX2_earnings yX2_earnings ∈ BIG := bt4 (i := 166) (Eq.refl _) rfl
set_option maxRecDepth 100000 in
theorem m_926 : Cond.code yX2_earnings cX2_earnings 4 (some .int) ∈ BIG := bt4 (i := 167) (Eq.refl _) rfl
set_option maxRecDepth 100000 in
theorem m_927 : Cond.methodLink RL 149 yX11_bestOver ∈ BIG := bt4 (i := 168) (Eq.refl _) rfl
set_option maxRecDepth 100000 in
theorem m_928 : Cond.instanceMethod yX11_bestOver ∈ BIG := bt4 (i := 169) (Eq.refl _) rfl
set_option maxRecDepth 100000 in
theorem m_929 : Cond.selects RX11 yX11_bestOver yX11_bestOver ∈ BIG := bt4 (i := 170) (Eq.refl _) rfl
set_option maxRecDepth 100000 in
theorem m_930 : Cond.code yX11_bestOver cX11_bestOver 1 (some .int) ∈ BIG := bt4 (i := 171) (Eq.refl _) rfl
set_option maxRecDepth 100000 in
theorem m_931 : Cond.methodLink RX11 282 yX2_dearestOver ∈ BIG := bt4 (i := 172) (Eq.refl _) rfl
set_option maxRecDepth 100000 in
theorem m_932 : Cond.instanceMethod yX2_dearestOver ∈ BIG := bt4 (i := 173) (Eq.refl _) rfl
set_option maxRecDepth 100000 in
theorem m_933 : Cond.selects RX2 yX2_dearestOver yX2_dearestOver ∈ BIG := bt4 (i := 174) (Eq.refl _) rfl
set_option maxRecDepth 100000 in
theorem m_934 : Cond.code yX2_dearestOver cX2_dearestOver 5 (some .int) ∈ BIG := bt4 (i := 175) (Eq.refl _) rfl
set_option maxRecDepth 100000 in
theorem m_935 : Cond.methodLink RX2 25 yX2_earnings ∈ BIG := bt4 (i := 176) (Eq.refl _) rfl
set_option maxRecDepth 100000 in
theorem m_936 : Cond.methodLink RL 153 yX11_taste ∈ BIG := bt4 (i := 177) (Eq.refl _) rfl
set_option maxRecDepth 100000 in
theorem m_937 : Cond.instanceMethod yX11_taste ∈ BIG := bt4 (i := 178) (Eq.refl _) rfl
set_option maxRecDepth 100000 in
theorem m_938 : Cond.selects RX11 yX11_taste yX11_taste ∈ BIG := bt4 (i := 179) (Eq.refl _) rfl
set_option maxRecDepth 100000 in
theorem m_939 : Cond.code yX11_taste cX11_taste 3 (some .int) ∈ BIG := bt4 (i := 180) (Eq.refl _) rfl
set_option maxRecDepth 100000 in
theorem m_940 : Cond.methodLink RX11 285 yX2_enterTaste ∈ BIG := bt4 (i := 181) (Eq.refl _) rfl
set_option maxRecDepth 100000 in
theorem m_941 : Cond.instanceMethod yX2_enterTaste ∈ BIG := bt4 (i := 182) (Eq.refl _) rfl
set_option maxRecDepth 100000 in
theorem m_942 : Cond.selects RX2 yX2_enterTaste yX2_enterTaste ∈ BIG := bt4 (i := 183) (Eq.refl _) rfl
set_option maxRecDepth 100000 in
theorem m_943 : Cond.code yX2_enterTaste cX2_enterTaste 3 none ∈ BIG := bt4 (i := 184) (Eq.refl _) rfl
set_option maxRecDepth 100000 in
theorem m_944 : Cond.methodLink RL 157 yX11_brings ∈ BIG := bt4 (i := 185) (Eq.refl _) rfl
set_option maxRecDepth 100000 in
theorem m_945 : Cond.instanceMethod yX11_brings ∈ BIG := bt4 (i := 186) (Eq.refl _) rfl
set_option maxRecDepth 100000 in
theorem m_946 : Cond.selects RX11 yX11_brings yX11_brings ∈ BIG := bt4 (i := 187) (Eq.refl _) rfl
set_option maxRecDepth 100000 in
theorem m_947 : Cond.code yX11_brings cX11_brings 9 (some .long) ∈ BIG := bt4 (i := 188) (Eq.refl _) rfl
set_option maxRecDepth 100000 in
theorem m_948 : Cond.methodLink RX11 292 yX2_gainAbove ∈ BIG := bt4 (i := 189) (Eq.refl _) rfl
set_option maxRecDepth 100000 in
theorem m_949 : Cond.instanceMethod yX2_gainAbove ∈ BIG := bt4 (i := 190) (Eq.refl _) rfl
set_option maxRecDepth 100000 in
theorem m_950 : Cond.selects RX2 yX2_gainAbove yX2_gainAbove ∈ BIG := bt4 (i := 191) (Eq.refl _) rfl
set_option maxRecDepth 100000 in
theorem m_951 : Cond.code yX2_gainAbove cX2_gainAbove 2 (some .long) ∈ BIG := bt4 (i := 192) (Eq.refl _) rfl
set_option maxRecDepth 100000 in
theorem m_952 : Cond.constantLong RX2 29 (20) ∈ BIG := bt4 (i := 193) (Eq.refl _) rfl
set_option maxRecDepth 100000 in
theorem m_953 : Cond.methodLink RX2 31 yX2_gainBelow ∈ BIG := bt4 (i := 194) (Eq.refl _) rfl
set_option maxRecDepth 100000 in
theorem m_954 : Cond.instanceMethod yX2_gainBelow ∈ BIG := bt4 (i := 195) (Eq.refl _) rfl
set_option maxRecDepth 100000 in
theorem m_955 : Cond.selects RX2 yX2_gainBelow yX2_gainBelow ∈ BIG := bt4 (i := 196) (Eq.refl _) rfl
set_option maxRecDepth 100000 in
theorem m_956 : Cond.code yX2_gainBelow cX2_gainBelow 2 (some .long) ∈ BIG := bt4 (i := 197) (Eq.refl _) rfl
set_option maxRecDepth 100000 in
theorem m_957 : Cond.constantLong RX2 35 (2) ∈ BIG := bt4 (i := 198) (Eq.refl _) rfl
set_option maxRecDepth 100000 in
theorem m_958 : Cond.methodLink RX11 296 yX2_gainBelow ∈ BIG := bt4 (i := 199) (Eq.refl _) rfl
set_option maxRecDepth 100000 in
theorem m_959 : Cond.constantLong RX11 299 (1000000) ∈ BIG := bt4 (i := 200) (Eq.refl _) rfl
set_option maxRecDepth 100000 in
theorem m_960 : Cond.methodLink RL 162 yX11_bestTaste ∈ BIG := bt4 (i := 201) (Eq.refl _) rfl
set_option maxRecDepth 100000 in
theorem m_961 : Cond.instanceMethod yX11_bestTaste ∈ BIG := bt4 (i := 202) (Eq.refl _) rfl
set_option maxRecDepth 100000 in
theorem m_962 : Cond.selects RX11 yX11_bestTaste yX11_bestTaste ∈ BIG := bt4 (i := 203) (Eq.refl _) rfl
set_option maxRecDepth 100000 in
theorem m_963 : Cond.code yX11_bestTaste cX11_bestTaste 1 (some .int) ∈ BIG := bt4 (i := 204) (Eq.refl _) rfl
set_option maxRecDepth 100000 in
theorem m_964 : Cond.methodLink RX11 301 yX2_dearestTastes ∈ BIG := bt4 (i := 205) (Eq.refl _) rfl
set_option maxRecDepth 100000 in
theorem m_965 : Cond.instanceMethod yX2_dearestTastes ∈ BIG := bt4 (i := 206) (Eq.refl _) rfl
set_option maxRecDepth 100000 in
theorem m_966 : Cond.selects RX2 yX2_dearestTastes yX2_dearestTastes ∈ BIG := bt4 (i := 207) (Eq.refl _) rfl
set_option maxRecDepth 100000 in
theorem m_967 : Cond.code yX2_dearestTastes cX2_dearestTastes 3 (some .int) ∈ BIG := bt4 (i := 208) (Eq.refl _) rfl
set_option maxRecDepth 100000 in
theorem m_968 : Cond.methodLink RX2 37 yX2_gainAbove ∈ BIG := bt4 (i := 209) (Eq.refl _) rfl
set_option maxRecDepth 100000 in
theorem m_969 : Cond.methodLink RL 166 yX11_prices ∈ BIG := bt4 (i := 210) (Eq.refl _) rfl
set_option maxRecDepth 100000 in
theorem m_970 : Cond.instanceMethod yX11_prices ∈ BIG := bt4 (i := 211) (Eq.refl _) rfl
set_option maxRecDepth 100000 in
theorem m_971 : Cond.selects RX11 yX11_prices yX11_prices ∈ BIG := bt4 (i := 212) (Eq.refl _) rfl
set_option maxRecDepth 100000 in
theorem m_972 : Cond.code yX11_prices cX11_prices 4 (some .int) ∈ BIG := bt4 (i := 213) (Eq.refl _) rfl
set_option maxRecDepth 100000 in
theorem m_973 : Cond.methodLink RL 170 yX11_worth ∈ BIG := bt4 (i := 214) (Eq.refl _) rfl
set_option maxRecDepth 100000 in
theorem m_974 : Cond.instanceMethod yX11_worth ∈ BIG := bt4 (i := 215) (Eq.refl _) rfl
set_option maxRecDepth 100000 in
theorem m_975 : Cond.selects RX11 yX11_worth yX11_worth ∈ BIG := bt4 (i := 216) (Eq.refl _) rfl
set_option maxRecDepth 100000 in
theorem m_976 : Cond.code yX11_worth cX11_worth 4 (some .int) ∈ BIG := bt4 (i := 217) (Eq.refl _) rfl
set_option maxRecDepth 100000 in
theorem m_977 : Cond.methodLink RL 174 yX11_keep ∈ BIG := bt4 (i := 218) (Eq.refl _) rfl
set_option maxRecDepth 100000 in
theorem m_978 : Cond.instanceMethod yX11_keep ∈ BIG := bt4 (i := 219) (Eq.refl _) rfl
set_option maxRecDepth 100000 in
theorem m_979 : Cond.selects RX11 yX11_keep yX11_keep ∈ BIG := bt4 (i := 220) (Eq.refl _) rfl
set_option maxRecDepth 100000 in
theorem m_980 : Cond.code yX11_keep cX11_keep 2 (some .int) ∈ BIG := bt4 (i := 221) (Eq.refl _) rfl
set_option maxRecDepth 100000 in
theorem m_981 : Cond.methodLink RX11 305 yX1_become ∈ BIG := bt4 (i := 222) (Eq.refl _) rfl
set_option maxRecDepth 100000 in
theorem m_982 : Cond.instanceMethod yX1_become ∈ BIG := bt4 (i := 223) (Eq.refl _) rfl
set_option maxRecDepth 100000 in
theorem m_983 : Cond.selects RX1 yX1_become yX1_become ∈ BIG := bt4 (i := 224) (Eq.refl _) rfl
set_option maxRecDepth 100000 in
theorem m_984 : Cond.code yX1_become cX1_become 3 none ∈ BIG := bt4 (i := 225) (Eq.refl _) rfl
set_option maxRecDepth 100000 in
theorem m_985 : Cond.methodLink RX11 309 yX1_standing ∈ BIG := bt4 (i := 226) (Eq.refl _) rfl
set_option maxRecDepth 100000 in
theorem m_986 : Cond.instanceMethod yX1_standing ∈ BIG := bt4 (i := 227) (Eq.refl _) rfl
set_option maxRecDepth 100000 in
theorem m_987 : Cond.selects RX1 yX1_standing yX1_standing ∈ BIG := bt4 (i := 228) (Eq.refl _) rfl
set_option maxRecDepth 100000 in
theorem m_988 : Cond.code yX1_standing cX1_standing 3 (some .int) ∈ BIG := bt4 (i := 229) (Eq.refl _) rfl
set_option maxRecDepth 100000 in
theorem m_989 : Cond.methodLink RL 178 yX11_again ∈ BIG := bt4 (i := 230) (Eq.refl _) rfl
set_option maxRecDepth 100000 in
theorem m_990 : Cond.instanceMethod yX11_again ∈ BIG := bt4 (i := 231) (Eq.refl _) rfl
set_option maxRecDepth 100000 in
theorem m_991 : Cond.selects RX11 yX11_again yX11_again ∈ BIG := bt4 (i := 232) (Eq.refl _) rfl
set_option maxRecDepth 100000 in
theorem m_992 : Cond.code yX11_again cX11_again 2 (some .int) ∈ BIG := bt4 (i := 233) (Eq.refl _) rfl
set_option maxRecDepth 100000 in
theorem m_993 : Cond.methodLink RL 182 yX11_count ∈ BIG := bt4 (i := 234) (Eq.refl _) rfl
set_option maxRecDepth 100000 in
theorem m_994 : Cond.instanceMethod yX11_count ∈ BIG := bt4 (i := 235) (Eq.refl _) rfl
set_option maxRecDepth 100000 in
theorem m_995 : Cond.selects RX11 yX11_count yX11_count ∈ BIG := bt4 (i := 236) (Eq.refl _) rfl
set_option maxRecDepth 100000 in
theorem m_996 : Cond.code yX11_count cX11_count 2 (some .int) ∈ BIG := bt4 (i := 237) (Eq.refl _) rfl
set_option maxRecDepth 100000 in
theorem m_997 : Cond.classLink RL 10 RX12 ∈ BIG := bt4 (i := 238) (Eq.refl _) rfl
set_option maxRecDepth 100000 in
theorem m_998 : Cond.instantiable RX12 47 ∈ BIG := bt4 (i := 239) (Eq.refl _) rfl
set_option maxRecDepth 100000 in
theorem m_999 : Cond.methodLink RL 12 yX12_init ∈ BIG := bt5 (i := 0) (Eq.refl _) rfl
set_option maxRecDepth 100000 in
theorem m_1000 : Cond.instanceMethod yX12_init ∈ BIG := bt5 (i := 1) (Eq.refl _) rfl
set_option maxRecDepth 100000 in
theorem m_1001 : Cond.code yX12_init cX12_init 1 none ∈ BIG := bt5 (i := 2) (Eq.refl _) rfl
set_option maxRecDepth 100000 in
theorem m_1002 : Cond.methodLink RX12 7 Lib.objectInit ∈ BIG := bt5 (i := 3) (Eq.refl _) rfl
set_option maxRecDepth 100000 in
theorem m_1003 : Cond.fieldLink RX12 1 "WheelAndWireModel" "thrown" "I" ∈ BIG := bt5 (i := 4) (Eq.refl _) rfl
set_option maxRecDepth 100000 in
theorem m_1004 : Cond.fieldLink RX12 13 "WheelAndWireModel" "text" "[I" ∈ BIG := bt5 (i := 5) (Eq.refl _) rfl
set_option maxRecDepth 100000 in
theorem m_1005 : Cond.fieldLink RX12 117 "WheelAndWireModel" "textSize" "I" ∈ BIG := bt5 (i := 6) (Eq.refl _) rfl
set_option maxRecDepth 100000 in
theorem m_1006 : Cond.fieldLink RX12 17 "WheelAndWireModel" "places" "[I" ∈ BIG := bt5 (i := 7) (Eq.refl _) rfl
set_option maxRecDepth 100000 in
theorem m_1007 : Cond.fieldLink RX12 20 "WheelAndWireModel" "rows" "I" ∈ BIG := bt5 (i := 8) (Eq.refl _) rfl
set_option maxRecDepth 100000 in
theorem m_1008 : Cond.fieldLink RX12 23 "WheelAndWireModel" "columns" "I" ∈ BIG := bt5 (i := 9) (Eq.refl _) rfl
set_option maxRecDepth 100000 in
theorem m_1009 : Cond.fieldLink RX12 26 "WheelAndWireModel" "readPlaces" "[I" ∈ BIG := bt5 (i := 10) (Eq.refl _) rfl
set_option maxRecDepth 100000 in
theorem m_1010 : Cond.fieldLink RX12 120 "WheelAndWireModel" "readRows" "I" ∈ BIG := bt5 (i := 11) (Eq.refl _) rfl
set_option maxRecDepth 100000 in
theorem m_1011 : Cond.fieldLink RX12 123 "WheelAndWireModel" "readColumns" "I" ∈ BIG := bt5 (i := 12) (Eq.refl _) rfl
set_option maxRecDepth 100000 in
theorem m_1012 : Cond.fieldLink RX12 29 "WheelAndWireModel" "many" "I" ∈ BIG := bt5 (i := 13) (Eq.refl _) rfl
set_option maxRecDepth 100000 in
theorem m_1013 : Cond.fieldLink RX12 32 "WheelAndWireModel" "top" "[I" ∈ BIG := bt5 (i := 14) (Eq.refl _) rfl
set_option maxRecDepth 100000 in
theorem m_1014 : Cond.fieldLink RX12 35 "WheelAndWireModel" "lefts" "[I" ∈ BIG := bt5 (i := 15) (Eq.refl _) rfl
set_option maxRecDepth 100000 in
theorem m_1015 : Cond.fieldLink RX12 38 "WheelAndWireModel" "high" "[I" ∈ BIG := bt5 (i := 16) (Eq.refl _) rfl
set_option maxRecDepth 100000 in
theorem m_1016 : Cond.fieldLink RX12 41 "WheelAndWireModel" "wide" "[I" ∈ BIG := bt5 (i := 17) (Eq.refl _) rfl
set_option maxRecDepth 100000 in
theorem m_1017 : Cond.fieldLink RX12 44 "WheelAndWireModel" "state" "[I" ∈ BIG := bt5 (i := 18) (Eq.refl _) rfl
set_option maxRecDepth 100000 in
theorem m_1018 : Cond.fieldLink RX12 47 "WheelAndWireModel" "wrap" "[I" ∈ BIG := bt5 (i := 19) (Eq.refl _) rfl
set_option maxRecDepth 100000 in
theorem m_1019 : Cond.fieldLink RX12 50 "WheelAndWireModel" "off" "[I" ∈ BIG := bt5 (i := 20) (Eq.refl _) rfl
set_option maxRecDepth 100000 in
theorem m_1020 : Cond.fieldLink RX12 53 "WheelAndWireModel" "dried" "[I" ∈ BIG := bt5 (i := 21) (Eq.refl _) rfl
set_option maxRecDepth 100000 in
theorem m_1021 : Cond.fieldLink RX12 134 "WheelAndWireModel" "hours" "I" ∈ BIG := bt5 (i := 22) (Eq.refl _) rfl
set_option maxRecDepth 100000 in
theorem m_1022 : Cond.fieldLink RX12 56 "WheelAndWireModel" "aside" "[I" ∈ BIG := bt5 (i := 23) (Eq.refl _) rfl
set_option maxRecDepth 100000 in
theorem m_1023 : Cond.fieldLink RX12 59 "WheelAndWireModel" "kept" "[I" ∈ BIG := bt5 (i := 24) (Eq.refl _) rfl
set_option maxRecDepth 100000 in
theorem m_1024 : Cond.fieldLink RX12 62 "WheelAndWireModel" "isKept" "[Z" ∈ BIG := bt5 (i := 25) (Eq.refl _) rfl
set_option maxRecDepth 100000 in
theorem m_1025 : Cond.fieldLink RX12 169 "WheelAndWireModel" "partWeight" "I" ∈ BIG := bt5 (i := 26) (Eq.refl _) rfl
set_option maxRecDepth 100000 in
theorem m_1026 : Cond.fieldLink RX12 176 "WheelAndWireModel" "partRind" "I" ∈ BIG := bt5 (i := 27) (Eq.refl _) rfl
set_option maxRecDepth 100000 in
theorem m_1027 : Cond.fieldLink RX12 220 "WheelAndWireModel" "cutFound" "I" ∈ BIG := bt5 (i := 28) (Eq.refl _) rfl
set_option maxRecDepth 100000 in
theorem m_1028 : Cond.fieldLink RX12 224 "WheelAndWireModel" "cutEdges" "I" ∈ BIG := bt5 (i := 29) (Eq.refl _) rfl
set_option maxRecDepth 100000 in
theorem m_1029 : Cond.fieldLink RX12 262 "WheelAndWireModel" "orders" "I" ∈ BIG := bt5 (i := 30) (Eq.refl _) rfl
set_option maxRecDepth 100000 in
theorem m_1030 : Cond.fieldLink RX12 66 "WheelAndWireModel" "askA" "[I" ∈ BIG := bt5 (i := 31) (Eq.refl _) rfl
set_option maxRecDepth 100000 in
theorem m_1031 : Cond.fieldLink RX12 69 "WheelAndWireModel" "askO" "[I" ∈ BIG := bt5 (i := 32) (Eq.refl _) rfl
set_option maxRecDepth 100000 in
theorem m_1032 : Cond.fieldLink RX12 72 "WheelAndWireModel" "askR" "[I" ∈ BIG := bt5 (i := 33) (Eq.refl _) rfl
set_option maxRecDepth 100000 in
theorem m_1033 : Cond.fieldLink RX12 75 "WheelAndWireModel" "weights" "[I" ∈ BIG := bt5 (i := 34) (Eq.refl _) rfl
set_option maxRecDepth 100000 in
theorem m_1034 : Cond.fieldLink RX12 78 "WheelAndWireModel" "rinds" "[I" ∈ BIG := bt5 (i := 35) (Eq.refl _) rfl
set_option maxRecDepth 100000 in
theorem m_1035 : Cond.fieldLink RX12 81 "WheelAndWireModel" "wires" "[I" ∈ BIG := bt5 (i := 36) (Eq.refl _) rfl
set_option maxRecDepth 100000 in
theorem m_1036 : Cond.fieldLink RX12 84 "WheelAndWireModel" "least" "[I" ∈ BIG := bt5 (i := 37) (Eq.refl _) rfl
set_option maxRecDepth 100000 in
theorem m_1037 : Cond.fieldLink RX12 268 "WheelAndWireModel" "firstCut" "I" ∈ BIG := bt5 (i := 38) (Eq.refl _) rfl
set_option maxRecDepth 100000 in
theorem m_1038 : Cond.fieldLink RX12 137 "WheelAndWireModel" "leftMany" "I" ∈ BIG := bt5 (i := 39) (Eq.refl _) rfl
set_option maxRecDepth 100000 in
theorem m_1039 : Cond.fieldLink RX12 87 "WheelAndWireModel" "leftBlock" "[I" ∈ BIG := bt5 (i := 40) (Eq.refl _) rfl
set_option maxRecDepth 100000 in
theorem m_1040 : Cond.fieldLink RX12 90 "WheelAndWireModel" "ripeFrom" "I" ∈ BIG := bt5 (i := 41) (Eq.refl _) rfl
set_option maxRecDepth 100000 in
theorem m_1041 : Cond.fieldLink RX12 93 "WheelAndWireModel" "ripeLong" "I" ∈ BIG := bt5 (i := 42) (Eq.refl _) rfl
set_option maxRecDepth 100000 in
theorem m_1042 : Cond.fieldLink RX12 323 "WheelAndWireModel" "bookMany" "I" ∈ BIG := bt5 (i := 43) (Eq.refl _) rfl
set_option maxRecDepth 100000 in
theorem m_1043 : Cond.fieldLink RX12 96 "WheelAndWireModel" "book" "[I" ∈ BIG := bt5 (i := 44) (Eq.refl _) rfl
set_option maxRecDepth 100000 in
theorem m_1044 : Cond.fieldLink RX12 99 "WheelAndWireModel" "there" "[I" ∈ BIG := bt5 (i := 45) (Eq.refl _) rfl
set_option maxRecDepth 100000 in
theorem m_1045 : Cond.fieldLink RX12 102 "WheelAndWireModel" "bought" "[I" ∈ BIG := bt5 (i := 46) (Eq.refl _) rfl
set_option maxRecDepth 100000 in
theorem m_1046 : Cond.fieldLink RX12 105 "WheelAndWireModel" "price" "I" ∈ BIG := bt5 (i := 47) (Eq.refl _) rfl
set_option maxRecDepth 100000 in
theorem m_1047 : Cond.fieldLink RX12 108 "WheelAndWireModel" "endPrice" "I" ∈ BIG := bt5 (i := 48) (Eq.refl _) rfl
set_option maxRecDepth 100000 in
theorem m_1048 : Cond.fieldLink RX12 238 "WheelAndWireModel" "twoEdges" "I" ∈ BIG := bt5 (i := 49) (Eq.refl _) rfl
set_option maxRecDepth 100000 in
theorem m_1049 : Cond.fieldLink RX12 241 "WheelAndWireModel" "twoFound" "I" ∈ BIG := bt5 (i := 50) (Eq.refl _) rfl
set_option maxRecDepth 100000 in
theorem m_1145 : Cond.arrayClass .boolean ∈ BIG := bt5 (i := 146) (Eq.refl _) rfl
set_option maxRecDepth 100000 in
theorem m_1146 : Cond.methodLink RL 19 yX12_write ∈ BIG := bt5 (i := 147) (Eq.refl _) rfl
set_option maxRecDepth 100000 in
theorem m_1147 : Cond.instanceMethod yX12_write ∈ BIG := bt5 (i := 148) (Eq.refl _) rfl
set_option maxRecDepth 100000 in
theorem m_1148 : Cond.selects RX12 yX12_write yX12_write ∈ BIG := bt5 (i := 149) (Eq.refl _) rfl
set_option maxRecDepth 100000 in
theorem m_1149 : Cond.code yX12_write cX12_write 5 (some .int) ∈ BIG := bt5 (i := 150) (Eq.refl _) rfl
set_option maxRecDepth 100000 in
theorem m_1150 : Cond.constantLong RX12 111 (8) ∈ BIG := bt5 (i := 151) (Eq.refl _) rfl
set_option maxRecDepth 100000 in
theorem m_1151 : Cond.methodLink RX12 113 yX12_in ∈ BIG := bt5 (i := 152) (Eq.refl _) rfl
set_option maxRecDepth 100000 in
theorem m_1152 : Cond.static yX12_in ∈ BIG := bt5 (i := 153) (Eq.refl _) rfl
set_option maxRecDepth 100000 in
theorem m_1153 : Cond.code yX12_in cX12_in 6 (some .boolean) ∈ BIG := bt5 (i := 154) (Eq.refl _) rfl
set_option maxRecDepth 100000 in
theorem m_1154 : Cond.methodLink RL 24 yX12_wipe ∈ BIG := bt5 (i := 155) (Eq.refl _) rfl
set_option maxRecDepth 100000 in
theorem m_1155 : Cond.instanceMethod yX12_wipe ∈ BIG := bt5 (i := 156) (Eq.refl _) rfl
set_option maxRecDepth 100000 in
theorem m_1156 : Cond.selects RX12 yX12_wipe yX12_wipe ∈ BIG := bt5 (i := 157) (Eq.refl _) rfl
set_option maxRecDepth 100000 in
theorem m_1157 : Cond.code yX12_wipe cX12_wipe 2 (some .int) ∈ BIG := bt5 (i := 158) (Eq.refl _) rfl
set_option maxRecDepth 100000 in
theorem m_1158 : Cond.methodLink RL 28 yX12_fault ∈ BIG := bt5 (i := 159) (Eq.refl _) rfl
set_option maxRecDepth 100000 in
theorem m_1159 : Cond.instanceMethod yX12_fault ∈ BIG := bt5 (i := 160) (Eq.refl _) rfl
set_option maxRecDepth 100000 in
theorem m_1160 : Cond.selects RX12 yX12_fault yX12_fault ∈ BIG := bt5 (i := 161) (Eq.refl _) rfl
set_option maxRecDepth 100000 in
theorem m_1161 : Cond.code yX12_fault cX12_fault 1 (some .int) ∈ BIG := bt5 (i := 162) (Eq.refl _) rfl
set_option maxRecDepth 100000 in
theorem m_1162 : Cond.methodLink RX12 130 yX12_readForm ∈ BIG := bt5 (i := 163) (Eq.refl _) rfl
set_option maxRecDepth 100000 in
theorem m_1164 : Cond.instanceMethod yX12_readForm ∈ BIG := bt5 (i := 165) (Eq.refl _) rfl
set_option maxRecDepth 100000 in
theorem m_1165 : Cond.code yX12_readForm cX12_readForm 5 (some .int) ∈ BIG := bt5 (i := 166) (Eq.refl _) rfl
set_option maxRecDepth 100000 in
theorem m_1166 : Cond.methodLink RX12 126 yX12_kind ∈ BIG := bt5 (i := 167) (Eq.refl _) rfl
set_option maxRecDepth 100000 in
theorem m_1167 : Cond.static yX12_kind ∈ BIG := bt5 (i := 168) (Eq.refl _) rfl
set_option maxRecDepth 100000 in
theorem m_1168 : Cond.code yX12_kind cX12_kind 1 (some .int) ∈ BIG := bt5 (i := 169) (Eq.refl _) rfl
set_option maxRecDepth 100000 in
theorem m_1169 : Cond.methodLink RL 32 yX12_form ∈ BIG := bt5 (i := 170) (Eq.refl _) rfl
set_option maxRecDepth 100000 in
theorem m_1170 : Cond.instanceMethod yX12_form ∈ BIG := bt5 (i := 171) (Eq.refl _) rfl
set_option maxRecDepth 100000 in
theorem m_1171 : Cond.selects RX12 yX12_form yX12_form ∈ BIG := bt5 (i := 172) (Eq.refl _) rfl
set_option maxRecDepth 100000 in
theorem m_1172 : Cond.code yX12_form cX12_form 2 (some .int) ∈ BIG := bt5 (i := 173) (Eq.refl _) rfl
set_option maxRecDepth 100000 in
theorem m_1173 : Cond.methodLink RX12 140 yX12_begin ∈ BIG := bt5 (i := 174) (Eq.refl _) rfl
set_option maxRecDepth 100000 in
theorem m_1175 : Cond.instanceMethod yX12_begin ∈ BIG := bt5 (i := 176) (Eq.refl _) rfl
set_option maxRecDepth 100000 in
theorem m_1176 : Cond.code yX12_begin cX12_begin 2 none ∈ BIG := bt5 (i := 177) (Eq.refl _) rfl
set_option maxRecDepth 100000 in
theorem m_1177 : Cond.methodLink RL 37 yX12_place ∈ BIG := bt5 (i := 178) (Eq.refl _) rfl
set_option maxRecDepth 100000 in
theorem m_1178 : Cond.instanceMethod yX12_place ∈ BIG := bt5 (i := 179) (Eq.refl _) rfl
set_option maxRecDepth 100000 in
theorem m_1179 : Cond.selects RX12 yX12_place yX12_place ∈ BIG := bt5 (i := 180) (Eq.refl _) rfl
set_option maxRecDepth 100000 in
theorem m_1180 : Cond.code yX12_place cX12_place 3 (some .int) ∈ BIG := bt5 (i := 181) (Eq.refl _) rfl
set_option maxRecDepth 100000 in
theorem m_1181 : Cond.methodLink RL 42 yX12_cut ∈ BIG := bt5 (i := 182) (Eq.refl _) rfl
set_option maxRecDepth 100000 in
theorem m_1182 : Cond.instanceMethod yX12_cut ∈ BIG := bt5 (i := 183) (Eq.refl _) rfl
set_option maxRecDepth 100000 in
theorem m_1183 : Cond.selects RX12 yX12_cut yX12_cut ∈ BIG := bt5 (i := 184) (Eq.refl _) rfl
set_option maxRecDepth 100000 in
theorem m_1184 : Cond.code yX12_cut cX12_cut 4 (some .int) ∈ BIG := bt5 (i := 185) (Eq.refl _) rfl
set_option maxRecDepth 100000 in
theorem m_1185 : Cond.methodLink RX12 179 yX12_noStand ∈ BIG := bt5 (i := 186) (Eq.refl _) rfl
set_option maxRecDepth 100000 in
theorem m_1187 : Cond.instanceMethod yX12_noStand ∈ BIG := bt5 (i := 188) (Eq.refl _) rfl
set_option maxRecDepth 100000 in
theorem m_1188 : Cond.code yX12_noStand cX12_noStand 2 (some .boolean) ∈ BIG := bt5 (i := 189) (Eq.refl _) rfl
set_option maxRecDepth 100000 in
theorem m_1189 : Cond.methodLink RX12 143 yX12_noPiece ∈ BIG := bt5 (i := 190) (Eq.refl _) rfl
set_option maxRecDepth 100000 in
theorem m_1191 : Cond.instanceMethod yX12_noPiece ∈ BIG := bt5 (i := 192) (Eq.refl _) rfl
set_option maxRecDepth 100000 in
theorem m_1192 : Cond.code yX12_noPiece cX12_noPiece 2 (some .boolean) ∈ BIG := bt5 (i := 193) (Eq.refl _) rfl
set_option maxRecDepth 100000 in
theorem m_1193 : Cond.methodLink RX12 182 yX12_makeCut ∈ BIG := bt5 (i := 194) (Eq.refl _) rfl
set_option maxRecDepth 100000 in
theorem m_1195 : Cond.instanceMethod yX12_makeCut ∈ BIG := bt5 (i := 196) (Eq.refl _) rfl
set_option maxRecDepth 100000 in
theorem m_1196 : Cond.code yX12_makeCut cX12_makeCut 9 (some .int) ∈ BIG := bt5 (i := 197) (Eq.refl _) rfl
set_option maxRecDepth 100000 in
theorem m_1197 : Cond.methodLink RX12 165 yX12_offAhead ∈ BIG := bt5 (i := 198) (Eq.refl _) rfl
set_option maxRecDepth 100000 in
theorem m_1199 : Cond.instanceMethod yX12_offAhead ∈ BIG := bt5 (i := 200) (Eq.refl _) rfl
set_option maxRecDepth 100000 in
theorem m_1200 : Cond.code yX12_offAhead cX12_offAhead 6 (some .int) ∈ BIG := bt5 (i := 201) (Eq.refl _) rfl
set_option maxRecDepth 100000 in
theorem m_1201 : Cond.methodLink RX12 151 yX12_weightOf ∈ BIG := bt5 (i := 202) (Eq.refl _) rfl
set_option maxRecDepth 100000 in
theorem m_1203 : Cond.instanceMethod yX12_weightOf ∈ BIG := bt5 (i := 204) (Eq.refl _) rfl
set_option maxRecDepth 100000 in
theorem m_1204 : Cond.code yX12_weightOf cX12_weightOf 9 (some .int) ∈ BIG := bt5 (i := 205) (Eq.refl _) rfl
set_option maxRecDepth 100000 in
theorem m_1205 : Cond.methodLink RX12 161 yX12_driedAhead ∈ BIG := bt5 (i := 206) (Eq.refl _) rfl
set_option maxRecDepth 100000 in
theorem m_1207 : Cond.instanceMethod yX12_driedAhead ∈ BIG := bt5 (i := 208) (Eq.refl _) rfl
set_option maxRecDepth 100000 in
theorem m_1208 : Cond.code yX12_driedAhead cX12_driedAhead 5 (some .int) ∈ BIG := bt5 (i := 209) (Eq.refl _) rfl
set_option maxRecDepth 100000 in
theorem m_1209 : Cond.methodLink RL 46 yX12_about ∈ BIG := bt5 (i := 210) (Eq.refl _) rfl
set_option maxRecDepth 100000 in
theorem m_1210 : Cond.instanceMethod yX12_about ∈ BIG := bt5 (i := 211) (Eq.refl _) rfl
set_option maxRecDepth 100000 in
theorem m_1211 : Cond.selects RX12 yX12_about yX12_about ∈ BIG := bt5 (i := 212) (Eq.refl _) rfl
set_option maxRecDepth 100000 in
theorem m_1212 : Cond.code yX12_about cX12_about 3 (some .int) ∈ BIG := bt5 (i := 213) (Eq.refl _) rfl
set_option maxRecDepth 100000 in
theorem m_1213 : Cond.methodLink RX12 172 yX12_countOf ∈ BIG := bt5 (i := 214) (Eq.refl _) rfl
set_option maxRecDepth 100000 in
theorem m_1215 : Cond.instanceMethod yX12_countOf ∈ BIG := bt5 (i := 216) (Eq.refl _) rfl
set_option maxRecDepth 100000 in
theorem m_1216 : Cond.code yX12_countOf cX12_countOf 9 (some .int) ∈ BIG := bt5 (i := 217) (Eq.refl _) rfl
set_option maxRecDepth 100000 in
theorem m_1217 : Cond.methodLink RX12 185 yX12_edges ∈ BIG := bt5 (i := 218) (Eq.refl _) rfl
set_option maxRecDepth 100000 in
theorem m_1219 : Cond.instanceMethod yX12_edges ∈ BIG := bt5 (i := 220) (Eq.refl _) rfl
set_option maxRecDepth 100000 in
theorem m_1220 : Cond.code yX12_edges cX12_edges 4 (some .int) ∈ BIG := bt5 (i := 221) (Eq.refl _) rfl
set_option maxRecDepth 100000 in
theorem m_1221 : Cond.methodLink RX12 147 yX12_face ∈ BIG := bt5 (i := 222) (Eq.refl _) rfl
set_option maxRecDepth 100000 in
theorem m_1223 : Cond.instanceMethod yX12_face ∈ BIG := bt5 (i := 224) (Eq.refl _) rfl
set_option maxRecDepth 100000 in
theorem m_1224 : Cond.code yX12_face cX12_face 4 (some .int) ∈ BIG := bt5 (i := 225) (Eq.refl _) rfl
set_option maxRecDepth 100000 in
theorem m_1225 : Cond.methodLink RX12 155 yX12_allDried ∈ BIG := bt5 (i := 226) (Eq.refl _) rfl
set_option maxRecDepth 100000 in
theorem m_1227 : Cond.instanceMethod yX12_allDried ∈ BIG := bt5 (i := 228) (Eq.refl _) rfl
set_option maxRecDepth 100000 in
theorem m_1228 : Cond.code yX12_allDried cX12_allDried 4 (some .int) ∈ BIG := bt5 (i := 229) (Eq.refl _) rfl
set_option maxRecDepth 100000 in
theorem m_1229 : Cond.methodLink RX12 188 yX12_isEnd ∈ BIG := bt5 (i := 230) (Eq.refl _) rfl
set_option maxRecDepth 100000 in
theorem m_1231 : Cond.instanceMethod yX12_isEnd ∈ BIG := bt5 (i := 232) (Eq.refl _) rfl
set_option maxRecDepth 100000 in
theorem m_1232 : Cond.code yX12_isEnd cX12_isEnd 4 (some .boolean) ∈ BIG := bt5 (i := 233) (Eq.refl _) rfl
set_option maxRecDepth 100000 in
theorem m_1233 : Cond.methodLink RL 51 yX12_weighs ∈ BIG := bt5 (i := 234) (Eq.refl _) rfl
set_option maxRecDepth 100000 in
theorem m_1234 : Cond.instanceMethod yX12_weighs ∈ BIG := bt5 (i := 235) (Eq.refl _) rfl
set_option maxRecDepth 100000 in
theorem m_1235 : Cond.selects RX12 yX12_weighs yX12_weighs ∈ BIG := bt5 (i := 236) (Eq.refl _) rfl
set_option maxRecDepth 100000 in
theorem m_1236 : Cond.code yX12_weighs cX12_weighs 2 (some .int) ∈ BIG := bt5 (i := 237) (Eq.refl _) rfl
set_option maxRecDepth 100000 in
theorem m_1237 : Cond.methodLink RX12 191 yX12_weighsOf ∈ BIG := bt5 (i := 238) (Eq.refl _) rfl
set_option maxRecDepth 100000 in
theorem m_1239 : Cond.instanceMethod yX12_weighsOf ∈ BIG := bt6 (i := 0) (Eq.refl _) rfl
set_option maxRecDepth 100000 in
theorem m_1240 : Cond.code yX12_weighsOf cX12_weighsOf 2 (some .int) ∈ BIG := bt6 (i := 1) (Eq.refl _) rfl
set_option maxRecDepth 100000 in
theorem m_1241 : Cond.methodLink RX12 158 yX12_more ∈ BIG := bt6 (i := 2) (Eq.refl _) rfl
set_option maxRecDepth 100000 in
theorem m_1242 : Cond.static yX12_more ∈ BIG := bt6 (i := 3) (Eq.refl _) rfl
set_option maxRecDepth 100000 in
theorem m_1243 : Cond.code yX12_more cX12_more 1 (some .int) ∈ BIG := bt6 (i := 4) (Eq.refl _) rfl
set_option maxRecDepth 100000 in
theorem m_1244 : Cond.methodLink RL 55 yX12_pass ∈ BIG := bt6 (i := 5) (Eq.refl _) rfl
set_option maxRecDepth 100000 in
theorem m_1245 : Cond.instanceMethod yX12_pass ∈ BIG := bt6 (i := 6) (Eq.refl _) rfl
set_option maxRecDepth 100000 in
theorem m_1246 : Cond.selects RX12 yX12_pass yX12_pass ∈ BIG := bt6 (i := 7) (Eq.refl _) rfl
set_option maxRecDepth 100000 in
theorem m_1247 : Cond.code yX12_pass cX12_pass 5 (some .int) ∈ BIG := bt6 (i := 8) (Eq.refl _) rfl
set_option maxRecDepth 100000 in
theorem m_1248 : Cond.constantLong RX12 194 (999) ∈ BIG := bt6 (i := 9) (Eq.refl _) rfl
set_option maxRecDepth 100000 in
theorem m_1249 : Cond.methodLink RL 59 yX12_wrap ∈ BIG := bt6 (i := 10) (Eq.refl _) rfl
set_option maxRecDepth 100000 in
theorem m_1250 : Cond.instanceMethod yX12_wrap ∈ BIG := bt6 (i := 11) (Eq.refl _) rfl
set_option maxRecDepth 100000 in
theorem m_1251 : Cond.selects RX12 yX12_wrap yX12_wrap ∈ BIG := bt6 (i := 12) (Eq.refl _) rfl
set_option maxRecDepth 100000 in
theorem m_1252 : Cond.code yX12_wrap cX12_wrap 4 (some .int) ∈ BIG := bt6 (i := 13) (Eq.refl _) rfl
set_option maxRecDepth 100000 in
theorem m_1253 : Cond.constantLong RX12 196 (2) ∈ BIG := bt6 (i := 14) (Eq.refl _) rfl
set_option maxRecDepth 100000 in
theorem m_1254 : Cond.methodLink RL 63 yX12_trim ∈ BIG := bt6 (i := 15) (Eq.refl _) rfl
set_option maxRecDepth 100000 in
theorem m_1255 : Cond.instanceMethod yX12_trim ∈ BIG := bt6 (i := 16) (Eq.refl _) rfl
set_option maxRecDepth 100000 in
theorem m_1256 : Cond.selects RX12 yX12_trim yX12_trim ∈ BIG := bt6 (i := 17) (Eq.refl _) rfl
set_option maxRecDepth 100000 in
theorem m_1257 : Cond.code yX12_trim cX12_trim 4 (some .int) ∈ BIG := bt6 (i := 18) (Eq.refl _) rfl
set_option maxRecDepth 100000 in
theorem m_1258 : Cond.methodLink RL 68 yX12_sell ∈ BIG := bt6 (i := 19) (Eq.refl _) rfl
set_option maxRecDepth 100000 in
theorem m_1259 : Cond.instanceMethod yX12_sell ∈ BIG := bt6 (i := 20) (Eq.refl _) rfl
set_option maxRecDepth 100000 in
theorem m_1260 : Cond.selects RX12 yX12_sell yX12_sell ∈ BIG := bt6 (i := 21) (Eq.refl _) rfl
set_option maxRecDepth 100000 in
theorem m_1261 : Cond.code yX12_sell cX12_sell 3 (some .int) ∈ BIG := bt6 (i := 22) (Eq.refl _) rfl
set_option maxRecDepth 100000 in
theorem m_1262 : Cond.methodLink RL 73 yX12_serves ∈ BIG := bt6 (i := 23) (Eq.refl _) rfl
set_option maxRecDepth 100000 in
theorem m_1263 : Cond.instanceMethod yX12_serves ∈ BIG := bt6 (i := 24) (Eq.refl _) rfl
set_option maxRecDepth 100000 in
theorem m_1264 : Cond.selects RX12 yX12_serves yX12_serves ∈ BIG := bt6 (i := 25) (Eq.refl _) rfl
set_option maxRecDepth 100000 in
theorem m_1265 : Cond.code yX12_serves cX12_serves 5 (some .int) ∈ BIG := bt6 (i := 26) (Eq.refl _) rfl
set_option maxRecDepth 100000 in
theorem m_1266 : Cond.methodLink RX12 204 yX12_noAsk ∈ BIG := bt6 (i := 27) (Eq.refl _) rfl
set_option maxRecDepth 100000 in
theorem m_1267 : Cond.static yX12_noAsk ∈ BIG := bt6 (i := 28) (Eq.refl _) rfl
set_option maxRecDepth 100000 in
theorem m_1268 : Cond.code yX12_noAsk cX12_noAsk 3 (some .boolean) ∈ BIG := bt6 (i := 29) (Eq.refl _) rfl
set_option maxRecDepth 100000 in
theorem m_1269 : Cond.constantLong RX12 198 (360) ∈ BIG := bt6 (i := 30) (Eq.refl _) rfl
set_option maxRecDepth 100000 in
theorem m_1270 : Cond.constantLong RX12 200 (99) ∈ BIG := bt6 (i := 31) (Eq.refl _) rfl
set_option maxRecDepth 100000 in
theorem m_1271 : Cond.constantLong RX12 202 (36) ∈ BIG := bt6 (i := 32) (Eq.refl _) rfl
set_option maxRecDepth 100000 in
theorem m_1272 : Cond.methodLink RX12 208 yX12_isServed ∈ BIG := bt6 (i := 33) (Eq.refl _) rfl
set_option maxRecDepth 100000 in
theorem m_1274 : Cond.instanceMethod yX12_isServed ∈ BIG := bt6 (i := 35) (Eq.refl _) rfl
set_option maxRecDepth 100000 in
theorem m_1275 : Cond.code yX12_isServed cX12_isServed 5 (some .boolean) ∈ BIG := bt6 (i := 36) (Eq.refl _) rfl
set_option maxRecDepth 100000 in
theorem m_1276 : Cond.methodLink RL 78 yX12_stands ∈ BIG := bt6 (i := 37) (Eq.refl _) rfl
set_option maxRecDepth 100000 in
theorem m_1277 : Cond.instanceMethod yX12_stands ∈ BIG := bt6 (i := 38) (Eq.refl _) rfl
set_option maxRecDepth 100000 in
theorem m_1278 : Cond.selects RX12 yX12_stands yX12_stands ∈ BIG := bt6 (i := 39) (Eq.refl _) rfl
set_option maxRecDepth 100000 in
theorem m_1279 : Cond.code yX12_stands cX12_stands 4 (some .int) ∈ BIG := bt6 (i := 40) (Eq.refl _) rfl
set_option maxRecDepth 100000 in
theorem m_1280 : Cond.methodLink RX12 212 yX12_standsFor ∈ BIG := bt6 (i := 41) (Eq.refl _) rfl
set_option maxRecDepth 100000 in
theorem m_1282 : Cond.instanceMethod yX12_standsFor ∈ BIG := bt6 (i := 43) (Eq.refl _) rfl
set_option maxRecDepth 100000 in
theorem m_1283 : Cond.code yX12_standsFor cX12_standsFor 7 (some .int) ∈ BIG := bt6 (i := 44) (Eq.refl _) rfl
set_option maxRecDepth 100000 in
theorem m_1284 : Cond.methodLink RL 82 yX12_next ∈ BIG := bt6 (i := 45) (Eq.refl _) rfl
set_option maxRecDepth 100000 in
theorem m_1285 : Cond.instanceMethod yX12_next ∈ BIG := bt6 (i := 46) (Eq.refl _) rfl
set_option maxRecDepth 100000 in
theorem m_1286 : Cond.selects RX12 yX12_next yX12_next ∈ BIG := bt6 (i := 47) (Eq.refl _) rfl
set_option maxRecDepth 100000 in
theorem m_1287 : Cond.code yX12_next cX12_next 4 (some .int) ∈ BIG := bt6 (i := 48) (Eq.refl _) rfl
set_option maxRecDepth 100000 in
theorem m_1288 : Cond.methodLink RX12 231 yX12_findCut ∈ BIG := bt6 (i := 49) (Eq.refl _) rfl
set_option maxRecDepth 100000 in
theorem m_1290 : Cond.instanceMethod yX12_findCut ∈ BIG := bt6 (i := 51) (Eq.refl _) rfl
set_option maxRecDepth 100000 in
theorem m_1291 : Cond.code yX12_findCut cX12_findCut 10 none ∈ BIG := bt6 (i := 52) (Eq.refl _) rfl
set_option maxRecDepth 100000 in
theorem m_1292 : Cond.constant RX12 223 (1000000) ∈ BIG := bt6 (i := 53) (Eq.refl _) rfl
set_option maxRecDepth 100000 in
theorem m_1293 : Cond.methodLink RX12 227 yX12_isPart ∈ BIG := bt6 (i := 54) (Eq.refl _) rfl
set_option maxRecDepth 100000 in
theorem m_1295 : Cond.instanceMethod yX12_isPart ∈ BIG := bt6 (i := 56) (Eq.refl _) rfl
set_option maxRecDepth 100000 in
theorem m_1296 : Cond.code yX12_isPart cX12_isPart 8 (some .boolean) ∈ BIG := bt6 (i := 57) (Eq.refl _) rfl
set_option maxRecDepth 100000 in
theorem m_1297 : Cond.methodLink RX12 216 yX12_layPart ∈ BIG := bt6 (i := 58) (Eq.refl _) rfl
set_option maxRecDepth 100000 in
theorem m_1299 : Cond.instanceMethod yX12_layPart ∈ BIG := bt6 (i := 60) (Eq.refl _) rfl
set_option maxRecDepth 100000 in
theorem m_1300 : Cond.code yX12_layPart cX12_layPart 13 none ∈ BIG := bt6 (i := 61) (Eq.refl _) rfl
set_option maxRecDepth 100000 in
theorem m_1301 : Cond.methodLink RL 86 yX12_serve ∈ BIG := bt6 (i := 62) (Eq.refl _) rfl
set_option maxRecDepth 100000 in
theorem m_1302 : Cond.instanceMethod yX12_serve ∈ BIG := bt6 (i := 63) (Eq.refl _) rfl
set_option maxRecDepth 100000 in
theorem m_1303 : Cond.selects RX12 yX12_serve yX12_serve ∈ BIG := bt6 (i := 64) (Eq.refl _) rfl
set_option maxRecDepth 100000 in
theorem m_1304 : Cond.code yX12_serve cX12_serve 5 (some .int) ∈ BIG := bt6 (i := 65) (Eq.refl _) rfl
set_option maxRecDepth 100000 in
theorem m_1305 : Cond.methodLink RX12 235 yX12_make ∈ BIG := bt6 (i := 66) (Eq.refl _) rfl
set_option maxRecDepth 100000 in
theorem m_1307 : Cond.instanceMethod yX12_make ∈ BIG := bt6 (i := 68) (Eq.refl _) rfl
set_option maxRecDepth 100000 in
theorem m_1308 : Cond.code yX12_make cX12_make 5 (some .int) ∈ BIG := bt6 (i := 69) (Eq.refl _) rfl
set_option maxRecDepth 100000 in
theorem m_1309 : Cond.methodLink RL 91 yX12_two ∈ BIG := bt6 (i := 70) (Eq.refl _) rfl
set_option maxRecDepth 100000 in
theorem m_1310 : Cond.instanceMethod yX12_two ∈ BIG := bt6 (i := 71) (Eq.refl _) rfl
set_option maxRecDepth 100000 in
theorem m_1311 : Cond.selects RX12 yX12_two yX12_two ∈ BIG := bt6 (i := 72) (Eq.refl _) rfl
set_option maxRecDepth 100000 in
theorem m_1312 : Cond.code yX12_two cX12_two 6 (some .int) ∈ BIG := bt6 (i := 73) (Eq.refl _) rfl
set_option maxRecDepth 100000 in
theorem m_1313 : Cond.methodLink RX12 258 yX12_findTwo ∈ BIG := bt6 (i := 74) (Eq.refl _) rfl
set_option maxRecDepth 100000 in
theorem m_1315 : Cond.instanceMethod yX12_findTwo ∈ BIG := bt6 (i := 76) (Eq.refl _) rfl
set_option maxRecDepth 100000 in
theorem m_1316 : Cond.code yX12_findTwo cX12_findTwo 12 none ∈ BIG := bt6 (i := 77) (Eq.refl _) rfl
set_option maxRecDepth 100000 in
theorem m_1317 : Cond.methodLink RX12 244 yX12_putAside ∈ BIG := bt6 (i := 78) (Eq.refl _) rfl
set_option maxRecDepth 100000 in
theorem m_1319 : Cond.instanceMethod yX12_putAside ∈ BIG := bt6 (i := 80) (Eq.refl _) rfl
set_option maxRecDepth 100000 in
theorem m_1320 : Cond.code yX12_putAside cX12_putAside 4 none ∈ BIG := bt6 (i := 81) (Eq.refl _) rfl
set_option maxRecDepth 100000 in
theorem m_1321 : Cond.methodLink RX12 247 yX12_second ∈ BIG := bt6 (i := 82) (Eq.refl _) rfl
set_option maxRecDepth 100000 in
theorem m_1323 : Cond.instanceMethod yX12_second ∈ BIG := bt6 (i := 84) (Eq.refl _) rfl
set_option maxRecDepth 100000 in
theorem m_1324 : Cond.code yX12_second cX12_second 4 (some .int) ∈ BIG := bt6 (i := 85) (Eq.refl _) rfl
set_option maxRecDepth 100000 in
theorem m_1325 : Cond.methodLink RX12 250 yX12_keepTwo ∈ BIG := bt6 (i := 86) (Eq.refl _) rfl
set_option maxRecDepth 100000 in
theorem m_1327 : Cond.instanceMethod yX12_keepTwo ∈ BIG := bt6 (i := 88) (Eq.refl _) rfl
set_option maxRecDepth 100000 in
theorem m_1328 : Cond.code yX12_keepTwo cX12_keepTwo 3 none ∈ BIG := bt6 (i := 89) (Eq.refl _) rfl
set_option maxRecDepth 100000 in
theorem m_1329 : Cond.methodLink RX12 254 yX12_takeBack ∈ BIG := bt6 (i := 90) (Eq.refl _) rfl
set_option maxRecDepth 100000 in
theorem m_1331 : Cond.instanceMethod yX12_takeBack ∈ BIG := bt6 (i := 92) (Eq.refl _) rfl
set_option maxRecDepth 100000 in
theorem m_1332 : Cond.code yX12_takeBack cX12_takeBack 4 none ∈ BIG := bt6 (i := 93) (Eq.refl _) rfl
set_option maxRecDepth 100000 in
theorem m_1333 : Cond.constant RX12 257 (100000) ∈ BIG := bt6 (i := 94) (Eq.refl _) rfl
set_option maxRecDepth 100000 in
theorem m_1334 : Cond.methodLink RL 95 yX12_twoFirst ∈ BIG := bt6 (i := 95) (Eq.refl _) rfl
set_option maxRecDepth 100000 in
theorem m_1335 : Cond.instanceMethod yX12_twoFirst ∈ BIG := bt6 (i := 96) (Eq.refl _) rfl
set_option maxRecDepth 100000 in
theorem m_1336 : Cond.selects RX12 yX12_twoFirst yX12_twoFirst ∈ BIG := bt6 (i := 97) (Eq.refl _) rfl
set_option maxRecDepth 100000 in
theorem m_1337 : Cond.code yX12_twoFirst cX12_twoFirst 6 (some .int) ∈ BIG := bt6 (i := 98) (Eq.refl _) rfl
set_option maxRecDepth 100000 in
theorem m_1338 : Cond.methodLink RL 99 yX12_order ∈ BIG := bt6 (i := 99) (Eq.refl _) rfl
set_option maxRecDepth 100000 in
theorem m_1339 : Cond.instanceMethod yX12_order ∈ BIG := bt6 (i := 100) (Eq.refl _) rfl
set_option maxRecDepth 100000 in
theorem m_1340 : Cond.selects RX12 yX12_order yX12_order ∈ BIG := bt6 (i := 101) (Eq.refl _) rfl
set_option maxRecDepth 100000 in
theorem m_1341 : Cond.code yX12_order cX12_order 4 (some .int) ∈ BIG := bt6 (i := 102) (Eq.refl _) rfl
set_option maxRecDepth 100000 in
theorem m_1342 : Cond.methodLink RL 103 yX12_unorder ∈ BIG := bt6 (i := 103) (Eq.refl _) rfl
set_option maxRecDepth 100000 in
theorem m_1343 : Cond.instanceMethod yX12_unorder ∈ BIG := bt6 (i := 104) (Eq.refl _) rfl
set_option maxRecDepth 100000 in
theorem m_1344 : Cond.selects RX12 yX12_unorder yX12_unorder ∈ BIG := bt6 (i := 105) (Eq.refl _) rfl
set_option maxRecDepth 100000 in
theorem m_1345 : Cond.code yX12_unorder cX12_unorder 2 (some .int) ∈ BIG := bt6 (i := 106) (Eq.refl _) rfl
set_option maxRecDepth 100000 in
theorem m_1346 : Cond.methodLink RL 107 yX12_whole ∈ BIG := bt6 (i := 107) (Eq.refl _) rfl
set_option maxRecDepth 100000 in
theorem m_1347 : Cond.instanceMethod yX12_whole ∈ BIG := bt6 (i := 108) (Eq.refl _) rfl
set_option maxRecDepth 100000 in
theorem m_1348 : Cond.selects RX12 yX12_whole yX12_whole ∈ BIG := bt6 (i := 109) (Eq.refl _) rfl
set_option maxRecDepth 100000 in
theorem m_1349 : Cond.code yX12_whole cX12_whole 2 (some .int) ∈ BIG := bt6 (i := 110) (Eq.refl _) rfl
set_option maxRecDepth 100000 in
theorem m_1350 : Cond.methodLink RX12 284 yX12_wholeWire ∈ BIG := bt6 (i := 111) (Eq.refl _) rfl
set_option maxRecDepth 100000 in
theorem m_1352 : Cond.instanceMethod yX12_wholeWire ∈ BIG := bt6 (i := 113) (Eq.refl _) rfl
set_option maxRecDepth 100000 in
theorem m_1353 : Cond.code yX12_wholeWire cX12_wholeWire 1 (some .int) ∈ BIG := bt6 (i := 114) (Eq.refl _) rfl
set_option maxRecDepth 100000 in
theorem m_1354 : Cond.methodLink RX12 281 yX12_layWires ∈ BIG := bt6 (i := 115) (Eq.refl _) rfl
set_option maxRecDepth 100000 in
theorem m_1356 : Cond.instanceMethod yX12_layWires ∈ BIG := bt6 (i := 117) (Eq.refl _) rfl
set_option maxRecDepth 100000 in
theorem m_1357 : Cond.code yX12_layWires cX12_layWires 8 none ∈ BIG := bt6 (i := 118) (Eq.refl _) rfl
set_option maxRecDepth 100000 in
theorem m_1358 : Cond.methodLink RX12 271 yX12_layBlocks ∈ BIG := bt6 (i := 119) (Eq.refl _) rfl
set_option maxRecDepth 100000 in
theorem m_1360 : Cond.instanceMethod yX12_layBlocks ∈ BIG := bt6 (i := 121) (Eq.refl _) rfl
set_option maxRecDepth 100000 in
theorem m_1361 : Cond.code yX12_layBlocks cX12_layBlocks 5 none ∈ BIG := bt6 (i := 122) (Eq.refl _) rfl
set_option maxRecDepth 100000 in
theorem m_1362 : Cond.methodLink RX12 265 yX12_block ∈ BIG := bt6 (i := 123) (Eq.refl _) rfl
set_option maxRecDepth 100000 in
theorem m_1363 : Cond.static yX12_block ∈ BIG := bt6 (i := 124) (Eq.refl _) rfl
set_option maxRecDepth 100000 in
theorem m_1364 : Cond.code yX12_block cX12_block 4 (some .int) ∈ BIG := bt6 (i := 125) (Eq.refl _) rfl
set_option maxRecDepth 100000 in
theorem m_1365 : Cond.methodLink RX12 274 yX12_isAsk ∈ BIG := bt6 (i := 126) (Eq.refl _) rfl
set_option maxRecDepth 100000 in
theorem m_1367 : Cond.instanceMethod yX12_isAsk ∈ BIG := bt6 (i := 128) (Eq.refl _) rfl
set_option maxRecDepth 100000 in
theorem m_1368 : Cond.code yX12_isAsk cX12_isAsk 3 (some .boolean) ∈ BIG := bt6 (i := 129) (Eq.refl _) rfl
set_option maxRecDepth 100000 in
theorem m_1369 : Cond.methodLink RX12 278 yX12_bestWire ∈ BIG := bt6 (i := 130) (Eq.refl _) rfl
set_option maxRecDepth 100000 in
theorem m_1371 : Cond.instanceMethod yX12_bestWire ∈ BIG := bt6 (i := 132) (Eq.refl _) rfl
set_option maxRecDepth 100000 in
theorem m_1372 : Cond.code yX12_bestWire cX12_bestWire 13 (some .int) ∈ BIG := bt6 (i := 133) (Eq.refl _) rfl
set_option maxRecDepth 100000 in
theorem m_1373 : Cond.methodLink RL 111 yX12_first ∈ BIG := bt6 (i := 134) (Eq.refl _) rfl
set_option maxRecDepth 100000 in
theorem m_1374 : Cond.instanceMethod yX12_first ∈ BIG := bt6 (i := 135) (Eq.refl _) rfl
set_option maxRecDepth 100000 in
theorem m_1375 : Cond.selects RX12 yX12_first yX12_first ∈ BIG := bt6 (i := 136) (Eq.refl _) rfl
set_option maxRecDepth 100000 in
theorem m_1376 : Cond.code yX12_first cX12_first 2 (some .int) ∈ BIG := bt6 (i := 137) (Eq.refl _) rfl
set_option maxRecDepth 100000 in
theorem m_1377 : Cond.methodLink RL 115 yX12_fair ∈ BIG := bt6 (i := 138) (Eq.refl _) rfl
set_option maxRecDepth 100000 in
theorem m_1378 : Cond.instanceMethod yX12_fair ∈ BIG := bt6 (i := 139) (Eq.refl _) rfl
set_option maxRecDepth 100000 in
theorem m_1379 : Cond.selects RX12 yX12_fair yX12_fair ∈ BIG := bt6 (i := 140) (Eq.refl _) rfl
set_option maxRecDepth 100000 in
theorem m_1380 : Cond.code yX12_fair cX12_fair 11 (some .int) ∈ BIG := bt6 (i := 141) (Eq.refl _) rfl
set_option maxRecDepth 100000 in
theorem m_1381 : Cond.methodLink RX12 291 yX12_bestOf ∈ BIG := bt6 (i := 142) (Eq.refl _) rfl
set_option maxRecDepth 100000 in
theorem m_1383 : Cond.instanceMethod yX12_bestOf ∈ BIG := bt6 (i := 144) (Eq.refl _) rfl
set_option maxRecDepth 100000 in
theorem m_1384 : Cond.code yX12_bestOf cX12_bestOf 14 (some .int) ∈ BIG := bt6 (i := 145) (Eq.refl _) rfl
set_option maxRecDepth 100000 in
theorem m_1385 : Cond.methodLink RX12 287 yX12_goesThrough ∈ BIG := bt6 (i := 146) (Eq.refl _) rfl
set_option maxRecDepth 100000 in
theorem m_1387 : Cond.instanceMethod yX12_goesThrough ∈ BIG := bt6 (i := 148) (Eq.refl _) rfl
set_option maxRecDepth 100000 in
theorem m_1388 : Cond.code yX12_goesThrough cX12_goesThrough 11 (some .boolean) ∈ BIG := bt6 (i := 149) (Eq.refl _) rfl
set_option maxRecDepth 100000 in
theorem m_1389 : Cond.methodLink RX12 298 yX12_meets ∈ BIG := bt6 (i := 150) (Eq.refl _) rfl
set_option maxRecDepth 100000 in
theorem m_1390 : Cond.static yX12_meets ∈ BIG := bt6 (i := 151) (Eq.refl _) rfl
set_option maxRecDepth 100000 in
theorem m_1391 : Cond.code yX12_meets cX12_meets 3 (some .boolean) ∈ BIG := bt6 (i := 152) (Eq.refl _) rfl
set_option maxRecDepth 100000 in
theorem m_1392 : Cond.methodLink RL 119 yX12_left ∈ BIG := bt6 (i := 153) (Eq.refl _) rfl
set_option maxRecDepth 100000 in
theorem m_1393 : Cond.instanceMethod yX12_left ∈ BIG := bt6 (i := 154) (Eq.refl _) rfl
set_option maxRecDepth 100000 in
theorem m_1394 : Cond.selects RX12 yX12_left yX12_left ∈ BIG := bt6 (i := 155) (Eq.refl _) rfl
set_option maxRecDepth 100000 in
theorem m_1395 : Cond.code yX12_left cX12_left 3 (some .int) ∈ BIG := bt6 (i := 156) (Eq.refl _) rfl
set_option maxRecDepth 100000 in
theorem m_1396 : Cond.methodLink RX12 295 yX12_noBlock ∈ BIG := bt6 (i := 157) (Eq.refl _) rfl
set_option maxRecDepth 100000 in
theorem m_1398 : Cond.instanceMethod yX12_noBlock ∈ BIG := bt6 (i := 159) (Eq.refl _) rfl
set_option maxRecDepth 100000 in
theorem m_1399 : Cond.code yX12_noBlock cX12_noBlock 6 (some .boolean) ∈ BIG := bt6 (i := 160) (Eq.refl _) rfl
set_option maxRecDepth 100000 in
theorem m_1400 : Cond.methodLink RL 123 yX12_read ∈ BIG := bt6 (i := 161) (Eq.refl _) rfl
set_option maxRecDepth 100000 in
theorem m_1401 : Cond.instanceMethod yX12_read ∈ BIG := bt6 (i := 162) (Eq.refl _) rfl
set_option maxRecDepth 100000 in
theorem m_1402 : Cond.selects RX12 yX12_read yX12_read ∈ BIG := bt6 (i := 163) (Eq.refl _) rfl
set_option maxRecDepth 100000 in
theorem m_1403 : Cond.code yX12_read cX12_read 8 (some .int) ∈ BIG := bt6 (i := 164) (Eq.refl _) rfl
set_option maxRecDepth 100000 in
theorem m_1404 : Cond.methodLink RL 127 yX12_unleft ∈ BIG := bt6 (i := 165) (Eq.refl _) rfl
set_option maxRecDepth 100000 in
theorem m_1405 : Cond.instanceMethod yX12_unleft ∈ BIG := bt6 (i := 166) (Eq.refl _) rfl
set_option maxRecDepth 100000 in
theorem m_1406 : Cond.selects RX12 yX12_unleft yX12_unleft ∈ BIG := bt6 (i := 167) (Eq.refl _) rfl
set_option maxRecDepth 100000 in
theorem m_1407 : Cond.code yX12_unleft cX12_unleft 2 (some .int) ∈ BIG := bt6 (i := 168) (Eq.refl _) rfl
set_option maxRecDepth 100000 in
theorem m_1408 : Cond.methodLink RL 131 yX12_ripens ∈ BIG := bt6 (i := 169) (Eq.refl _) rfl
set_option maxRecDepth 100000 in
theorem m_1409 : Cond.instanceMethod yX12_ripens ∈ BIG := bt6 (i := 170) (Eq.refl _) rfl
set_option maxRecDepth 100000 in
theorem m_1410 : Cond.selects RX12 yX12_ripens yX12_ripens ∈ BIG := bt6 (i := 171) (Eq.refl _) rfl
set_option maxRecDepth 100000 in
theorem m_1411 : Cond.code yX12_ripens cX12_ripens 4 (some .int) ∈ BIG := bt6 (i := 172) (Eq.refl _) rfl
set_option maxRecDepth 100000 in
theorem m_1412 : Cond.constantLong RX12 301 (30) ∈ BIG := bt6 (i := 173) (Eq.refl _) rfl
set_option maxRecDepth 100000 in
theorem m_1413 : Cond.methodLink RL 136 yX12_ripe ∈ BIG := bt6 (i := 174) (Eq.refl _) rfl
set_option maxRecDepth 100000 in
theorem m_1414 : Cond.instanceMethod yX12_ripe ∈ BIG := bt6 (i := 175) (Eq.refl _) rfl
set_option maxRecDepth 100000 in
theorem m_1415 : Cond.selects RX12 yX12_ripe yX12_ripe ∈ BIG := bt6 (i := 176) (Eq.refl _) rfl
set_option maxRecDepth 100000 in
theorem m_1416 : Cond.code yX12_ripe cX12_ripe 6 (some .long) ∈ BIG := bt6 (i := 177) (Eq.refl _) rfl
set_option maxRecDepth 100000 in
theorem m_1417 : Cond.constantLong RX12 309 (-1) ∈ BIG := bt6 (i := 178) (Eq.refl _) rfl
set_option maxRecDepth 100000 in
theorem m_1418 : Cond.constantLong RX12 311 (-2) ∈ BIG := bt6 (i := 179) (Eq.refl _) rfl
set_option maxRecDepth 100000 in
theorem m_1419 : Cond.methodLink RX12 313 yX12_paste ∈ BIG := bt6 (i := 180) (Eq.refl _) rfl
set_option maxRecDepth 100000 in
theorem m_1421 : Cond.instanceMethod yX12_paste ∈ BIG := bt6 (i := 182) (Eq.refl _) rfl
set_option maxRecDepth 100000 in
theorem m_1422 : Cond.code yX12_paste cX12_paste 2 (some .int) ∈ BIG := bt6 (i := 183) (Eq.refl _) rfl
set_option maxRecDepth 100000 in
theorem m_1423 : Cond.methodLink RX12 316 yX12_ripeIn ∈ BIG := bt6 (i := 184) (Eq.refl _) rfl
set_option maxRecDepth 100000 in
theorem m_1425 : Cond.instanceMethod yX12_ripeIn ∈ BIG := bt6 (i := 186) (Eq.refl _) rfl
set_option maxRecDepth 100000 in
theorem m_1426 : Cond.code yX12_ripeIn cX12_ripeIn 6 (some .int) ∈ BIG := bt6 (i := 187) (Eq.refl _) rfl
set_option maxRecDepth 100000 in
theorem m_1427 : Cond.methodLink RX12 306 yX12_isRipe ∈ BIG := bt6 (i := 188) (Eq.refl _) rfl
set_option maxRecDepth 100000 in
theorem m_1429 : Cond.instanceMethod yX12_isRipe ∈ BIG := bt6 (i := 190) (Eq.refl _) rfl
set_option maxRecDepth 100000 in
theorem m_1430 : Cond.code yX12_isRipe cX12_isRipe 6 (some .boolean) ∈ BIG := bt6 (i := 191) (Eq.refl _) rfl
set_option maxRecDepth 100000 in
theorem m_1431 : Cond.methodLink RX12 303 yX12_lesser ∈ BIG := bt6 (i := 192) (Eq.refl _) rfl
set_option maxRecDepth 100000 in
theorem m_1432 : Cond.static yX12_lesser ∈ BIG := bt6 (i := 193) (Eq.refl _) rfl
set_option maxRecDepth 100000 in
theorem m_1433 : Cond.code yX12_lesser cX12_lesser 2 (some .int) ∈ BIG := bt6 (i := 194) (Eq.refl _) rfl
set_option maxRecDepth 100000 in
theorem m_1434 : Cond.methodLink RX12 319 yX12_common ∈ BIG := bt6 (i := 195) (Eq.refl _) rfl
set_option maxRecDepth 100000 in
theorem m_1435 : Cond.static yX12_common ∈ BIG := bt6 (i := 196) (Eq.refl _) rfl
set_option maxRecDepth 100000 in
theorem m_1436 : Cond.code yX12_common cX12_common 10 (some .long) ∈ BIG := bt6 (i := 197) (Eq.refl _) rfl
set_option maxRecDepth 100000 in
theorem m_1437 : Cond.methodLink RL 140 yX12_ripest ∈ BIG := bt6 (i := 198) (Eq.refl _) rfl
set_option maxRecDepth 100000 in
theorem m_1438 : Cond.instanceMethod yX12_ripest ∈ BIG := bt6 (i := 199) (Eq.refl _) rfl
set_option maxRecDepth 100000 in
theorem m_1439 : Cond.selects RX12 yX12_ripest yX12_ripest ∈ BIG := bt6 (i := 200) (Eq.refl _) rfl
set_option maxRecDepth 100000 in
theorem m_1440 : Cond.code yX12_ripest cX12_ripest 8 (some .int) ∈ BIG := bt6 (i := 201) (Eq.refl _) rfl
set_option maxRecDepth 100000 in
theorem m_1441 : Cond.methodLink RL 144 yX12_book ∈ BIG := bt6 (i := 202) (Eq.refl _) rfl
set_option maxRecDepth 100000 in
theorem m_1442 : Cond.instanceMethod yX12_book ∈ BIG := bt6 (i := 203) (Eq.refl _) rfl
set_option maxRecDepth 100000 in
theorem m_1443 : Cond.selects RX12 yX12_book yX12_book ∈ BIG := bt6 (i := 204) (Eq.refl _) rfl
set_option maxRecDepth 100000 in
theorem m_1444 : Cond.code yX12_book cX12_book 2 (some .int) ∈ BIG := bt6 (i := 205) (Eq.refl _) rfl
set_option maxRecDepth 100000 in
theorem m_1445 : Cond.methodLink RL 148 yX12_over ∈ BIG := bt6 (i := 206) (Eq.refl _) rfl
set_option maxRecDepth 100000 in
theorem m_1446 : Cond.instanceMethod yX12_over ∈ BIG := bt6 (i := 207) (Eq.refl _) rfl
set_option maxRecDepth 100000 in
theorem m_1447 : Cond.selects RX12 yX12_over yX12_over ∈ BIG := bt6 (i := 208) (Eq.refl _) rfl
set_option maxRecDepth 100000 in
theorem m_1448 : Cond.code yX12_over cX12_over 2 (some .int) ∈ BIG := bt6 (i := 209) (Eq.refl _) rfl
set_option maxRecDepth 100000 in
theorem m_1449 : Cond.methodLink RX12 326 yX12_earns ∈ BIG := bt6 (i := 210) (Eq.refl _) rfl
set_option maxRecDepth 100000 in
theorem m_1451 : Cond.instanceMethod yX12_earns ∈ BIG := bt6 (i := 212) (Eq.refl _) rfl
set_option maxRecDepth 100000 in
theorem m_1452 : Cond.code yX12_earns cX12_earns 4 (some .int) ∈ BIG := bt6 (i := 213) (Eq.refl _) rfl
set_option maxRecDepth 100000 in
theorem m_1453 : Cond.methodLink RL 152 yX12_bestOver ∈ BIG := bt6 (i := 214) (Eq.refl _) rfl
set_option maxRecDepth 100000 in
theorem m_1454 : Cond.instanceMethod yX12_bestOver ∈ BIG := bt6 (i := 215) (Eq.refl _) rfl
set_option maxRecDepth 100000 in
theorem m_1455 : Cond.selects RX12 yX12_bestOver yX12_bestOver ∈ BIG := bt6 (i := 216) (Eq.refl _) rfl
set_option maxRecDepth 100000 in
theorem m_1456 : Cond.code yX12_bestOver cX12_bestOver 3 (some .int) ∈ BIG := bt6 (i := 217) (Eq.refl _) rfl
set_option maxRecDepth 100000 in
theorem m_1457 : Cond.methodLink RL 156 yX12_taste ∈ BIG := bt6 (i := 218) (Eq.refl _) rfl
set_option maxRecDepth 100000 in
theorem m_1458 : Cond.instanceMethod yX12_taste ∈ BIG := bt6 (i := 219) (Eq.refl _) rfl
set_option maxRecDepth 100000 in
theorem m_1459 : Cond.selects RX12 yX12_taste yX12_taste ∈ BIG := bt6 (i := 220) (Eq.refl _) rfl
set_option maxRecDepth 100000 in
theorem m_1460 : Cond.code yX12_taste cX12_taste 3 (some .int) ∈ BIG := bt6 (i := 221) (Eq.refl _) rfl
set_option maxRecDepth 100000 in
theorem m_1461 : Cond.constantLong RX12 329 (9) ∈ BIG := bt6 (i := 222) (Eq.refl _) rfl
set_option maxRecDepth 100000 in
theorem m_1462 : Cond.methodLink RL 161 yX12_brings ∈ BIG := bt6 (i := 223) (Eq.refl _) rfl
set_option maxRecDepth 100000 in
theorem m_1463 : Cond.instanceMethod yX12_brings ∈ BIG := bt6 (i := 224) (Eq.refl _) rfl
set_option maxRecDepth 100000 in
theorem m_1464 : Cond.selects RX12 yX12_brings yX12_brings ∈ BIG := bt6 (i := 225) (Eq.refl _) rfl
set_option maxRecDepth 100000 in
theorem m_1465 : Cond.code yX12_brings cX12_brings 5 (some .long) ∈ BIG := bt6 (i := 226) (Eq.refl _) rfl
set_option maxRecDepth 100000 in
theorem m_1466 : Cond.methodLink RX12 331 yX12_gain ∈ BIG := bt6 (i := 227) (Eq.refl _) rfl
set_option maxRecDepth 100000 in
theorem m_1468 : Cond.instanceMethod yX12_gain ∈ BIG := bt6 (i := 229) (Eq.refl _) rfl
set_option maxRecDepth 100000 in
theorem m_1469 : Cond.code yX12_gain cX12_gain 2 (some .int) ∈ BIG := bt6 (i := 230) (Eq.refl _) rfl
set_option maxRecDepth 100000 in
theorem m_1470 : Cond.constantLong RX12 334 (1000000) ∈ BIG := bt6 (i := 231) (Eq.refl _) rfl
set_option maxRecDepth 100000 in
theorem m_1471 : Cond.methodLink RL 165 yX12_bestTaste ∈ BIG := bt6 (i := 232) (Eq.refl _) rfl
set_option maxRecDepth 100000 in
theorem m_1472 : Cond.instanceMethod yX12_bestTaste ∈ BIG := bt6 (i := 233) (Eq.refl _) rfl
set_option maxRecDepth 100000 in
theorem m_1473 : Cond.selects RX12 yX12_bestTaste yX12_bestTaste ∈ BIG := bt6 (i := 234) (Eq.refl _) rfl
set_option maxRecDepth 100000 in
theorem m_1474 : Cond.code yX12_bestTaste cX12_bestTaste 5 (some .int) ∈ BIG := bt6 (i := 235) (Eq.refl _) rfl
set_option maxRecDepth 100000 in
theorem m_1475 : Cond.methodLink RL 169 yX12_prices ∈ BIG := bt6 (i := 236) (Eq.refl _) rfl
set_option maxRecDepth 100000 in
theorem m_1476 : Cond.instanceMethod yX12_prices ∈ BIG := bt6 (i := 237) (Eq.refl _) rfl
set_option maxRecDepth 100000 in
theorem m_1477 : Cond.selects RX12 yX12_prices yX12_prices ∈ BIG := bt6 (i := 238) (Eq.refl _) rfl
set_option maxRecDepth 100000 in
theorem m_1478 : Cond.code yX12_prices cX12_prices 4 (some .int) ∈ BIG := bt6 (i := 239) (Eq.refl _) rfl
set_option maxRecDepth 100000 in
theorem m_1479 : Cond.methodLink RL 173 yX12_worth ∈ BIG := bt7 (i := 0) (Eq.refl _) rfl
set_option maxRecDepth 100000 in
theorem m_1480 : Cond.instanceMethod yX12_worth ∈ BIG := bt7 (i := 1) (Eq.refl _) rfl
set_option maxRecDepth 100000 in
theorem m_1481 : Cond.selects RX12 yX12_worth yX12_worth ∈ BIG := bt7 (i := 2) (Eq.refl _) rfl
set_option maxRecDepth 100000 in
theorem m_1482 : Cond.code yX12_worth cX12_worth 3 (some .int) ∈ BIG := bt7 (i := 3) (Eq.refl _) rfl
set_option maxRecDepth 100000 in
theorem m_1483 : Cond.methodLink RL 177 yX12_keep ∈ BIG := bt7 (i := 4) (Eq.refl _) rfl
set_option maxRecDepth 100000 in
theorem m_1484 : Cond.instanceMethod yX12_keep ∈ BIG := bt7 (i := 5) (Eq.refl _) rfl
set_option maxRecDepth 100000 in
theorem m_1485 : Cond.selects RX12 yX12_keep yX12_keep ∈ BIG := bt7 (i := 6) (Eq.refl _) rfl
set_option maxRecDepth 100000 in
theorem m_1486 : Cond.code yX12_keep cX12_keep 3 (some .int) ∈ BIG := bt7 (i := 7) (Eq.refl _) rfl
set_option maxRecDepth 100000 in
theorem m_1487 : Cond.methodLink RX12 336 yX12_standing ∈ BIG := bt7 (i := 8) (Eq.refl _) rfl
set_option maxRecDepth 100000 in
theorem m_1489 : Cond.instanceMethod yX12_standing ∈ BIG := bt7 (i := 10) (Eq.refl _) rfl
set_option maxRecDepth 100000 in
theorem m_1490 : Cond.code yX12_standing cX12_standing 3 (some .int) ∈ BIG := bt7 (i := 11) (Eq.refl _) rfl
set_option maxRecDepth 100000 in
theorem m_1491 : Cond.methodLink RL 181 yX12_again ∈ BIG := bt7 (i := 12) (Eq.refl _) rfl
set_option maxRecDepth 100000 in
theorem m_1492 : Cond.instanceMethod yX12_again ∈ BIG := bt7 (i := 13) (Eq.refl _) rfl
set_option maxRecDepth 100000 in
theorem m_1493 : Cond.selects RX12 yX12_again yX12_again ∈ BIG := bt7 (i := 14) (Eq.refl _) rfl
set_option maxRecDepth 100000 in
theorem m_1494 : Cond.code yX12_again cX12_again 3 (some .int) ∈ BIG := bt7 (i := 15) (Eq.refl _) rfl
set_option maxRecDepth 100000 in
theorem m_1495 : Cond.methodLink RL 185 yX12_count ∈ BIG := bt7 (i := 16) (Eq.refl _) rfl
set_option maxRecDepth 100000 in
theorem m_1496 : Cond.instanceMethod yX12_count ∈ BIG := bt7 (i := 17) (Eq.refl _) rfl
set_option maxRecDepth 100000 in
theorem m_1497 : Cond.selects RX12 yX12_count yX12_count ∈ BIG := bt7 (i := 18) (Eq.refl _) rfl
set_option maxRecDepth 100000 in
theorem m_1498 : Cond.code yX12_count cX12_count 2 (some .int) ∈ BIG := bt7 (i := 19) (Eq.refl _) rfl
set_option maxRecDepth 100000 in
theorem m_1499 : Cond.constantLong RL 13 (4294967295) ∈ BIG := bt7 (i := 20) (Eq.refl _) rfl
