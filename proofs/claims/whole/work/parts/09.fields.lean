theorem iX10 : ∀ w ∈ u_ws RX10 TX10 2, w ∈ BIG := bms [73, 75] (by decide +kernel) (by decide +kernel)
theorem fl_X10_15_10 : fL RX10 15 10 1 := ⟨RX10, TX10, 2, "WheelAndWire$Text", rfl, rfl, by decide, by decide, m_71, Or.inl rfl, iX10⟩
theorem fl_X10_9_10 : fL RX10 9 10 0 := ⟨RX10, TX10, 2, "WheelAndWire$Text", rfl, rfl, by decide, by decide, m_68, Or.inl rfl, iX10⟩
theorem fp_10_1 (o : String) : fP 10 1 false o .int := ⟨RX10, TX10, 2, tyX10, rfl, tyX10_ok, nmX10, rfl, fun e => Bool.noConfusion e, rfl⟩
theorem iX11 : ∀ w ∈ u_ws RX11 TX11 11, w ∈ BIG := bms [400, 402, 404, 406, 408, 410, 412, 414, 416, 418, 420] (by decide +kernel) (by decide +kernel)
theorem fl_X11_12_11 : fL RX11 12 11 0 := ⟨RX11, TX11, 11, "WheelAndWire", rfl, rfl, by decide, by decide, m_389, Or.inl rfl, iX11⟩
theorem fl_X11_80_10 : fL RX11 80 10 1 := ⟨RX10, TX10, 2, "WheelAndWire$Text", rfl, rfl, by decide, by decide, m_72, Or.inl rfl, iX10⟩
theorem vw_X11_83 : vW RX11 83 10 yX10_append cX10_append 5 none 2 := ⟨⟨_, rfl, by decide, rfl⟩, m_427, m_428, m_429, m_41, m_430, ⟨by decide +kernel, by decide +kernel, by decide +kernel⟩⟩
theorem nw_X10_19 : nW RX10 19 yX11_kindOf cX11_kindOf 1 (some .int) 1 (.static yX11_kindOf) := ⟨"WheelAndWire", by decide +kernel, m_444, m_40, m_445, ⟨by decide +kernel, by decide +kernel, by decide +kernel⟩⟩
theorem vw_X11_87 : vW RX11 87 10 yX10_firstFault cX10_firstFault 5 (some .int) 0 := ⟨⟨_, rfl, by decide, rfl⟩, m_439, m_440, m_441, m_41, m_442, ⟨by decide +kernel, by decide +kernel, by decide +kernel⟩⟩
theorem iX4 : ∀ w ∈ u_ws RX4 TX4 7, w ∈ BIG := bms [117, 119, 121, 123, 125, 127, 129] (by decide +kernel) (by decide +kernel)
theorem fl_X4_9_4 : fL RX4 9 4 0 := ⟨RX4, TX4, 7, "WheelAndWire$Form", rfl, rfl, by decide, by decide, m_98, Or.inl rfl, iX4⟩
theorem fl_X4_21_4 : fL RX4 21 4 3 := ⟨RX4, TX4, 7, "WheelAndWire$Form", rfl, rfl, by decide, by decide, m_101, Or.inl rfl, iX4⟩
theorem fl_X4_25_4 : fL RX4 25 4 4 := ⟨RX4, TX4, 7, "WheelAndWire$Form", rfl, rfl, by decide, by decide, m_107, Or.inl rfl, iX4⟩
theorem vw_X4_49 : vW RX4 49 4 yX4_kindAt cX4_kindAt 4 (some .int) 2 := ⟨⟨_, rfl, by decide, rfl⟩, m_89, m_90, m_91, m_42, m_92, ⟨by decide +kernel, by decide +kernel, by decide +kernel⟩⟩
theorem fl_X4_15_4 : fL RX4 15 4 1 := ⟨RX4, TX4, 7, "WheelAndWire$Form", rfl, rfl, by decide, by decide, m_99, Or.inl rfl, iX4⟩
theorem sw_X4_56 : sW RX4 56 yX4_addPlace cX4_addPlace 5 none 4 := ⟨rfl, m_95, m_96, m_42, m_97, ⟨by decide +kernel, by decide +kernel, by decide +kernel⟩⟩
theorem fl_X4_18_4 : fL RX4 18 4 2 := ⟨RX4, TX4, 7, "WheelAndWire$Form", rfl, rfl, by decide, by decide, m_100, Or.inl rfl, iX4⟩
theorem fl_X4_37_10 : fL RX4 37 10 1 := ⟨RX10, TX10, 2, "WheelAndWire$Text", rfl, rfl, by decide, by decide, m_70, Or.inl rfl, iX10⟩
theorem fl_X4_42_10 : fL RX4 42 10 0 := ⟨RX10, TX10, 2, "WheelAndWire$Text", rfl, rfl, by decide, by decide, m_69, Or.inl rfl, iX10⟩
theorem nw_X4_45 : nW RX4 45 yX11_kindOf cX11_kindOf 1 (some .int) 1 (.static yX11_kindOf) := ⟨"WheelAndWire", by decide +kernel, m_444, m_40, m_445, ⟨by decide +kernel, by decide +kernel, by decide +kernel⟩⟩
theorem fp_4_3 (o : String) : fP 4 3 false o .int := ⟨RX4, TX4, 7, tyX4, rfl, tyX4_ok, nmX4, rfl, fun e => Bool.noConfusion e, rfl⟩
theorem fp_4_4 (o : String) : fP 4 4 false o .int := ⟨RX4, TX4, 7, tyX4, rfl, tyX4_ok, nmX4, rfl, fun e => Bool.noConfusion e, rfl⟩
theorem vw_X4_34 : vW RX4 34 4 yX4_addUp cX4_addUp 4 none 0 := ⟨⟨_, rfl, by decide, rfl⟩, m_85, m_86, m_87, m_42, m_88, ⟨by decide +kernel, by decide +kernel, by decide +kernel⟩⟩
theorem vw_X4_60 : vW RX4 60 4 yX4_sumIn cX4_sumIn 8 (some .int) 5 := ⟨⟨_, rfl, by decide, rfl⟩, m_206, m_207, m_208, m_42, m_209, ⟨by decide +kernel, by decide +kernel, by decide +kernel⟩⟩
theorem iX7 : ∀ w ∈ u_ws RX7 TX7 13, w ∈ BIG := bms [167, 169, 171, 173, 175, 177, 179, 181, 183, 185, 187, 189, 191] (by decide +kernel) (by decide +kernel)
theorem fl_X7_53_7 : fL RX7 53 7 9 := ⟨RX7, TX7, 13, "WheelAndWire$Piece", rfl, rfl, by decide, by decide, m_163, Or.inl rfl, iX7⟩
theorem fp_7_9 (o : String) : fP 7 9 false o .int := ⟨RX7, TX7, 13, tyX7, rfl, tyX7_ok, nmX7, rfl, fun e => Bool.noConfusion e, rfl⟩
theorem fl_X7_56_7 : fL RX7 56 7 10 := ⟨RX7, TX7, 13, "WheelAndWire$Piece", rfl, rfl, by decide, by decide, m_164, Or.inl rfl, iX7⟩
theorem fp_7_10 (o : String) : fP 7 10 false o .int := ⟨RX7, TX7, 13, tyX7, rfl, tyX7_ok, nmX7, rfl, fun e => Bool.noConfusion e, rfl⟩
theorem fl_X7_59_7 : fL RX7 59 7 11 := ⟨RX7, TX7, 13, "WheelAndWire$Piece", rfl, rfl, by decide, by decide, m_165, Or.inl rfl, iX7⟩
theorem fp_7_11 (o : String) : fP 7 11 false o .int := ⟨RX7, TX7, 13, tyX7, rfl, tyX7_ok, nmX7, rfl, fun e => Bool.noConfusion e, rfl⟩
theorem fl_X7_62_7 : fL RX7 62 7 12 := ⟨RX7, TX7, 13, "WheelAndWire$Piece", rfl, rfl, by decide, by decide, m_166, Or.inl rfl, iX7⟩
theorem fp_7_12 (o : String) : fP 7 12 false o .int := ⟨RX7, TX7, 13, tyX7, rfl, tyX7_ok, nmX7, rfl, fun e => Bool.noConfusion e, rfl⟩
theorem fl_X7_9_7 : fL RX7 9 7 0 := ⟨RX7, TX7, 13, "WheelAndWire$Piece", rfl, rfl, by decide, by decide, m_145, Or.inl rfl, iX7⟩
theorem fp_7_0 (o : String) : fP 7 0 false o .int := ⟨RX7, TX7, 13, tyX7, rfl, tyX7_ok, nmX7, rfl, fun e => Bool.noConfusion e, rfl⟩
theorem fl_X7_15_7 : fL RX7 15 7 1 := ⟨RX7, TX7, 13, "WheelAndWire$Piece", rfl, rfl, by decide, by decide, m_146, Or.inl rfl, iX7⟩
theorem fp_7_1 (o : String) : fP 7 1 false o .int := ⟨RX7, TX7, 13, tyX7, rfl, tyX7_ok, nmX7, rfl, fun e => Bool.noConfusion e, rfl⟩
theorem fl_X7_18_4 : fL RX7 18 4 3 := ⟨RX4, TX4, 7, "WheelAndWire$Form", rfl, rfl, by decide, by decide, m_103, Or.inl rfl, iX4⟩
theorem fl_X7_23_7 : fL RX7 23 7 2 := ⟨RX7, TX7, 13, "WheelAndWire$Piece", rfl, rfl, by decide, by decide, m_147, Or.inl rfl, iX7⟩
theorem fp_7_2 (o : String) : fP 7 2 false o .int := ⟨RX7, TX7, 13, tyX7, rfl, tyX7_ok, nmX7, rfl, fun e => Bool.noConfusion e, rfl⟩
theorem fl_X7_24_4 : fL RX7 24 4 4 := ⟨RX4, TX4, 7, "WheelAndWire$Form", rfl, rfl, by decide, by decide, m_109, Or.inl rfl, iX4⟩
theorem fl_X7_27_7 : fL RX7 27 7 3 := ⟨RX7, TX7, 13, "WheelAndWire$Piece", rfl, rfl, by decide, by decide, m_149, Or.inl rfl, iX7⟩
theorem fp_7_3 (o : String) : fP 7 3 false o .int := ⟨RX7, TX7, 13, tyX7, rfl, tyX7_ok, nmX7, rfl, fun e => Bool.noConfusion e, rfl⟩
theorem vw_X7_28 : vW RX7 28 4 yX4_weightIn cX4_weightIn 5 (some .int) 4 := ⟨⟨_, rfl, by decide, rfl⟩, m_202, m_203, m_204, m_42, m_205, ⟨by decide +kernel, by decide +kernel, by decide +kernel⟩⟩
theorem fl_X7_32_7 : fL RX7 32 7 4 := ⟨RX7, TX7, 13, "WheelAndWire$Piece", rfl, rfl, by decide, by decide, m_151, Or.inl rfl, iX7⟩
theorem fp_7_4 (o : String) : fP 7 4 false o .int := ⟨RX7, TX7, 13, tyX7, rfl, tyX7_ok, nmX7, rfl, fun e => Bool.noConfusion e, rfl⟩
theorem vw_X7_35 : vW RX7 35 4 yX4_rindIn cX4_rindIn 5 (some .int) 4 := ⟨⟨_, rfl, by decide, rfl⟩, m_210, m_211, m_212, m_42, m_213, ⟨by decide +kernel, by decide +kernel, by decide +kernel⟩⟩
theorem fl_X7_38_7 : fL RX7 38 7 5 := ⟨RX7, TX7, 13, "WheelAndWire$Piece", rfl, rfl, by decide, by decide, m_152, Or.inl rfl, iX7⟩
theorem fp_7_5 (o : String) : fP 7 5 false o .int := ⟨RX7, TX7, 13, tyX7, rfl, tyX7_ok, nmX7, rfl, fun e => Bool.noConfusion e, rfl⟩
theorem fl_X7_41_7 : fL RX7 41 7 6 := ⟨RX7, TX7, 13, "WheelAndWire$Piece", rfl, rfl, by decide, by decide, m_155, Or.inl rfl, iX7⟩
theorem fp_7_6 (o : String) : fP 7 6 false o .int := ⟨RX7, TX7, 13, tyX7, rfl, tyX7_ok, nmX7, rfl, fun e => Bool.noConfusion e, rfl⟩
theorem fl_X7_44_7 : fL RX7 44 7 7 := ⟨RX7, TX7, 13, "WheelAndWire$Piece", rfl, rfl, by decide, by decide, m_159, Or.inl rfl, iX7⟩
theorem fp_7_7 (o : String) : fP 7 7 false o .int := ⟨RX7, TX7, 13, tyX7, rfl, tyX7_ok, nmX7, rfl, fun e => Bool.noConfusion e, rfl⟩
theorem fl_X7_47_7 : fL RX7 47 7 8 := ⟨RX7, TX7, 13, "WheelAndWire$Piece", rfl, rfl, by decide, by decide, m_161, Or.inl rfl, iX7⟩
theorem fp_7_8 (o : String) : fP 7 8 false o .int := ⟨RX7, TX7, 13, tyX7, rfl, tyX7_ok, nmX7, rfl, fun e => Bool.noConfusion e, rfl⟩
theorem vw_X7_50 : vW RX7 50 7 yX7_dryAnew cX7_dryAnew 1 none 0 := ⟨⟨_, rfl, by decide, rfl⟩, m_214, m_215, m_216, m_44, m_217, ⟨by decide +kernel, by decide +kernel, by decide +kernel⟩⟩
theorem iX1 : ∀ w ∈ u_ws RX1 TX1 6, w ∈ BIG := bms [229, 231, 233, 235, 237, 239] (by decide +kernel) (by decide +kernel)
theorem fl_X1_11_1 : fL RX1 11 1 1 := ⟨RX1, TX1, 6, "WheelAndWire$Board", rfl, rfl, by decide, by decide, m_219, Or.inl rfl, iX1⟩
theorem fl_X1_22_1 : fL RX1 22 1 0 := ⟨RX1, TX1, 6, "WheelAndWire$Board", rfl, rfl, by decide, by decide, m_218, Or.inl rfl, iX1⟩
theorem vw_X1_29 : vW RX1 29 7 yX7_becomeAll cX7_becomeAll 2 none 1 := ⟨⟨_, rfl, by decide, rfl⟩, m_198, m_199, m_200, m_44, m_201, ⟨by decide +kernel, by decide +kernel, by decide +kernel⟩⟩
theorem fl_X1_33_1 : fL RX1 33 1 3 := ⟨RX1, TX1, 6, "WheelAndWire$Board", rfl, rfl, by decide, by decide, m_224, Or.inl rfl, iX1⟩
theorem fp_1_3 (o : String) : fP 1 3 false o .int := ⟨RX1, TX1, 6, tyX1, rfl, tyX1_ok, nmX1, rfl, fun e => Bool.noConfusion e, rfl⟩
theorem fl_X1_37_1 : fL RX1 37 1 4 := ⟨RX1, TX1, 6, "WheelAndWire$Board", rfl, rfl, by decide, by decide, m_226, Or.inl rfl, iX1⟩
theorem fp_1_4 (o : String) : fP 1 4 false o .int := ⟨RX1, TX1, 6, tyX1, rfl, tyX1_ok, nmX1, rfl, fun e => Bool.noConfusion e, rfl⟩
theorem iX5 : ∀ w ∈ u_ws RX5 TX5 9, w ∈ BIG := bms [364, 365, 366, 352, 354, 356, 358, 360, 362] (by decide +kernel) (by decide +kernel)
theorem fl_X5_24_5 : fL RX5 24 5 7 := ⟨RX5, TX5, 9, "WheelAndWire$LeftPlan", rfl, rfl, by decide, by decide, m_349, Or.inl rfl, iX5⟩
theorem fp_5_7 (o : String) : fP 5 7 false o .int := ⟨RX5, TX5, 9, tyX5, rfl, tyX5_ok, nmX5, rfl, fun e => Bool.noConfusion e, rfl⟩
theorem fl_X5_28_5 : fL RX5 28 5 8 := ⟨RX5, TX5, 9, "WheelAndWire$LeftPlan", rfl, rfl, by decide, by decide, m_351, Or.inl rfl, iX5⟩
theorem fp_5_8 (o : String) : fP 5 8 false o .boolean := ⟨RX5, TX5, 9, tyX5, rfl, tyX5_ok, nmX5, rfl, fun e => Bool.noConfusion e, rfl⟩
theorem fl_X11_19_11 : fL RX11 19 11 1 := ⟨RX11, TX11, 11, "WheelAndWire", rfl, rfl, by decide, by decide, m_390, Or.inl rfl, iX11⟩
theorem vw_X11_91 : vW RX11 91 4 yX4_take cX4_take 5 none 1 := ⟨⟨_, rfl, by decide, rfl⟩, m_450, m_451, m_452, m_42, m_453, ⟨by decide +kernel, by decide +kernel, by decide +kernel⟩⟩
theorem fl_X11_28_11 : fL RX11 28 11 2 := ⟨RX11, TX11, 11, "WheelAndWire", rfl, rfl, by decide, by decide, m_391, Or.inl rfl, iX11⟩
theorem vw_X11_95 : vW RX11 95 1 yX1_startAnew cX1_startAnew 1 none 0 := ⟨⟨_, rfl, by decide, rfl⟩, m_455, m_195, m_196, m_43, m_197, ⟨by decide +kernel, by decide +kernel, by decide +kernel⟩⟩
theorem fl_X11_32_11 : fL RX11 32 11 3 := ⟨RX11, TX11, 11, "WheelAndWire", rfl, rfl, by decide, by decide, m_392, Or.inl rfl, iX11⟩
theorem fl_X11_98_1 : fL RX11 98 1 5 := ⟨RX1, TX1, 6, "WheelAndWire$Board", rfl, rfl, by decide, by decide, m_228, Or.inl rfl, iX1⟩
theorem fp_1_5 (o : String) : fP 1 5 false o .boolean := ⟨RX1, TX1, 6, tyX1, rfl, tyX1_ok, nmX1, rfl, fun e => Bool.noConfusion e, rfl⟩
theorem fl_X11_62_11 : fL RX11 62 11 7 := ⟨RX11, TX11, 11, "WheelAndWire", rfl, rfl, by decide, by decide, m_396, Or.inl rfl, iX11⟩
theorem vw_X11_102 : vW RX11 102 5 yX5_empty cX5_empty 1 none 0 := ⟨⟨_, rfl, by decide, rfl⟩, m_456, m_457, m_458, m_50, m_459, ⟨by decide +kernel, by decide +kernel, by decide +kernel⟩⟩
theorem fl_X11_48_11 : fL RX11 48 11 5 := ⟨RX11, TX11, 11, "WheelAndWire", rfl, rfl, by decide, by decide, m_394, Or.inl rfl, iX11⟩
theorem iX6 : ∀ w ∈ u_ws RX6 TX6 7, w ∈ BIG := bms [316, 318, 320, 308, 310, 312, 314] (by decide +kernel) (by decide +kernel)
theorem fl_X11_105_6 : fL RX11 105 6 6 := ⟨RX6, TX6, 7, "WheelAndWire$OrderPlan", rfl, rfl, by decide, by decide, m_300, Or.inl rfl, iX6⟩
theorem fp_6_6 (o : String) : fP 6 6 false o .boolean := ⟨RX6, TX6, 7, tyX6, rfl, tyX6_ok, nmX6, rfl, fun e => Bool.noConfusion e, rfl⟩
theorem fl_X11_108_4 : fL RX11 108 4 3 := ⟨RX4, TX4, 7, "WheelAndWire$Form", rfl, rfl, by decide, by decide, m_105, Or.inl rfl, iX4⟩
theorem fl_X11_111_4 : fL RX11 111 4 4 := ⟨RX4, TX4, 7, "WheelAndWire$Form", rfl, rfl, by decide, by decide, m_111, Or.inl rfl, iX4⟩
theorem vw_X11_114 : vW RX11 114 4 yX4_holds cX4_holds 5 (some .boolean) 4 := ⟨⟨_, rfl, by decide, rfl⟩, m_464, m_465, m_466, m_42, m_467, ⟨by decide +kernel, by decide +kernel, by decide +kernel⟩⟩
theorem vw_X11_118 : vW RX11 118 4 yX4_kindAt cX4_kindAt 4 (some .int) 2 := ⟨⟨_, rfl, by decide, rfl⟩, m_468, m_90, m_91, m_42, m_92, ⟨by decide +kernel, by decide +kernel, by decide +kernel⟩⟩
theorem vw_X1_44 : vW RX1 44 1 yX1_knows cX1_knows 2 (some .boolean) 1 := ⟨⟨_, rfl, by decide, rfl⟩, m_477, m_478, m_479, m_43, m_480, ⟨by decide +kernel, by decide +kernel, by decide +kernel⟩⟩
theorem fl_X1_48_7 : fL RX1 48 7 6 := ⟨RX7, TX7, 13, "WheelAndWire$Piece", rfl, rfl, by decide, by decide, m_157, Or.inl rfl, iX7⟩
theorem vw_X7_99 : vW RX7 99 7 yX7_become cX7_become 2 none 1 := ⟨⟨_, rfl, by decide, rfl⟩, m_489, m_490, m_491, m_44, m_492, ⟨by decide +kernel, by decide +kernel, by decide +kernel⟩⟩
theorem sw_X7_103 : sW RX7 103 yX7_share cX7_share 3 (some .int) 3 := ⟨rfl, m_493, m_494, m_44, m_495, ⟨by decide +kernel, by decide +kernel, by decide +kernel⟩⟩
theorem fl_X1_18_1 : fL RX1 18 1 2 := ⟨RX1, TX1, 6, "WheelAndWire$Board", rfl, rfl, by decide, by decide, m_222, Or.inl rfl, iX1⟩
theorem vw_X1_51 : vW RX1 51 7 yX7_part cX7_part 6 none 5 := ⟨⟨_, rfl, by decide, rfl⟩, m_485, m_486, m_487, m_44, m_488, ⟨by decide +kernel, by decide +kernel, by decide +kernel⟩⟩
theorem vw_X1_40 : vW RX1 40 7 yX7_become cX7_become 2 none 1 := ⟨⟨_, rfl, by decide, rfl⟩, m_496, m_490, m_491, m_44, m_492, ⟨by decide +kernel, by decide +kernel, by decide +kernel⟩⟩
theorem vw_X11_122 : vW RX11 122 1 yX1_stillHas cX1_stillHas 2 (some .boolean) 1 := ⟨⟨_, rfl, by decide, rfl⟩, m_473, m_474, m_475, m_43, m_476, ⟨by decide +kernel, by decide +kernel, by decide +kernel⟩⟩
theorem fl_X11_126_1 : fL RX11 126 1 1 := ⟨RX1, TX1, 6, "WheelAndWire$Board", rfl, rfl, by decide, by decide, m_221, Or.inl rfl, iX1⟩
theorem fl_X11_133_7 : fL RX11 133 7 3 := ⟨RX7, TX7, 13, "WheelAndWire$Piece", rfl, rfl, by decide, by decide, m_150, Or.inl rfl, iX7⟩
theorem fl_X11_130_7 : fL RX11 130 7 2 := ⟨RX7, TX7, 13, "WheelAndWire$Piece", rfl, rfl, by decide, by decide, m_148, Or.inl rfl, iX7⟩
theorem vw_X11_134 : vW RX11 134 1 yX1_divide cX1_divide 4 (some .int) 3 := ⟨⟨_, rfl, by decide, rfl⟩, m_481, m_482, m_483, m_43, m_484, ⟨by decide +kernel, by decide +kernel, by decide +kernel⟩⟩
theorem vw_X7_65 : vW RX7 65 7 yX7_edgesAbove cX7_edgesAbove 1 (some .int) 0 := ⟨⟨_, rfl, by decide, rfl⟩, m_510, m_511, m_512, m_44, m_513, ⟨by decide +kernel, by decide +kernel, by decide +kernel⟩⟩
theorem vw_X7_69 : vW RX7 69 7 yX7_edgesBelow cX7_edgesBelow 2 (some .int) 1 := ⟨⟨_, rfl, by decide, rfl⟩, m_514, m_515, m_516, m_44, m_517, ⟨by decide +kernel, by decide +kernel, by decide +kernel⟩⟩
theorem vw_X7_73 : vW RX7 73 7 yX7_edgesLeft cX7_edgesLeft 1 (some .int) 0 := ⟨⟨_, rfl, by decide, rfl⟩, m_518, m_519, m_520, m_44, m_521, ⟨by decide +kernel, by decide +kernel, by decide +kernel⟩⟩
theorem vw_X7_76 : vW RX7 76 7 yX7_edgesRight cX7_edgesRight 2 (some .int) 1 := ⟨⟨_, rfl, by decide, rfl⟩, m_522, m_523, m_524, m_44, m_525, ⟨by decide +kernel, by decide +kernel, by decide +kernel⟩⟩
theorem vw_X11_138 : vW RX11 138 1 yX1_knows cX1_knows 2 (some .boolean) 1 := ⟨⟨_, rfl, by decide, rfl⟩, m_501, m_478, m_479, m_43, m_480, ⟨by decide +kernel, by decide +kernel, by decide +kernel⟩⟩
theorem vw_X11_141 : vW RX11 141 7 yX7_block cX7_block 1 (some .int) 0 := ⟨⟨_, rfl, by decide, rfl⟩, m_502, m_503, m_504, m_44, m_505, ⟨by decide +kernel, by decide +kernel, by decide +kernel⟩⟩
theorem fl_X11_144_7 : fL RX11 144 7 6 := ⟨RX7, TX7, 13, "WheelAndWire$Piece", rfl, rfl, by decide, by decide, m_158, Or.inl rfl, iX7⟩
theorem fl_X11_147_7 : fL RX11 147 7 5 := ⟨RX7, TX7, 13, "WheelAndWire$Piece", rfl, rfl, by decide, by decide, m_154, Or.inl rfl, iX7⟩
theorem vw_X11_150 : vW RX11 150 7 yX7_bareEdges cX7_bareEdges 2 (some .int) 1 := ⟨⟨_, rfl, by decide, rfl⟩, m_506, m_507, m_508, m_44, m_509, ⟨by decide +kernel, by decide +kernel, by decide +kernel⟩⟩
theorem vw_X11_154 : vW RX11 154 7 yX7_dried cX7_dried 1 (some .int) 0 := ⟨⟨_, rfl, by decide, rfl⟩, m_526, m_527, m_528, m_44, m_529, ⟨by decide +kernel, by decide +kernel, by decide +kernel⟩⟩
theorem fl_X11_157_7 : fL RX11 157 7 8 := ⟨RX7, TX7, 13, "WheelAndWire$Piece", rfl, rfl, by decide, by decide, m_162, Or.inl rfl, iX7⟩
theorem fl_X11_160_7 : fL RX11 160 7 7 := ⟨RX7, TX7, 13, "WheelAndWire$Piece", rfl, rfl, by decide, by decide, m_160, Or.inl rfl, iX7⟩
theorem vw_X11_163 : vW RX11 163 7 yX7_isEnd cX7_isEnd 3 (some .boolean) 1 := ⟨⟨_, rfl, by decide, rfl⟩, m_530, m_531, m_532, m_44, m_533, ⟨by decide +kernel, by decide +kernel, by decide +kernel⟩⟩
theorem vw_X7_79 : vW RX7 79 7 yX7_dried cX7_dried 1 (some .int) 0 := ⟨⟨_, rfl, by decide, rfl⟩, m_542, m_527, m_528, m_44, m_529, ⟨by decide +kernel, by decide +kernel, by decide +kernel⟩⟩
theorem mw_X7_82 : Cond.methodLink RX7 82 Lib.Math.max.name ∈ BIG ∧ Cond.static Lib.Math.max.name ∈ BIG ∧ Cond.initialized "java/lang/Math" ∈ BIG ∧ Cond.code Lib.Math.max.name Lib.Math.max.code 2 (some .int) ∈ BIG := ⟨m_543, m_291, m_48, m_292⟩
theorem vw_X11_167 : vW RX11 167 7 yX7_weight cX7_weight 1 (some .int) 0 := ⟨⟨_, rfl, by decide, rfl⟩, m_538, m_539, m_540, m_44, m_541, ⟨by decide +kernel, by decide +kernel, by decide +kernel⟩⟩
theorem vw_X1_55 : vW RX1 55 7 yX7_dry cX7_dry 4 none 2 := ⟨⟨_, rfl, by decide, rfl⟩, m_552, m_553, m_554, m_44, m_555, ⟨by decide +kernel, by decide +kernel, by decide +kernel⟩⟩
theorem fl_X11_170_1 : fL RX11 170 1 4 := ⟨RX1, TX1, 6, "WheelAndWire$Board", rfl, rfl, by decide, by decide, m_227, Or.inl rfl, iX1⟩
theorem vw_X11_173 : vW RX11 173 1 yX1_goBy cX1_goBy 3 none 1 := ⟨⟨_, rfl, by decide, rfl⟩, m_548, m_549, m_550, m_43, m_551, ⟨by decide +kernel, by decide +kernel, by decide +kernel⟩⟩
theorem vw_X7_92 : vW RX7 92 7 yX7_bareEdges cX7_bareEdges 2 (some .int) 1 := ⟨⟨_, rfl, by decide, rfl⟩, m_571, m_507, m_508, m_44, m_509, ⟨by decide +kernel, by decide +kernel, by decide +kernel⟩⟩
theorem vw_X11_181 : vW RX11 181 7 yX7_shave cX7_shave 2 none 1 := ⟨⟨_, rfl, by decide, rfl⟩, m_567, m_568, m_569, m_44, m_570, ⟨by decide +kernel, by decide +kernel, by decide +kernel⟩⟩
theorem bw_X0_3 : Cond.methodLink RX0 3 Lib.objectInit ∈ BIG ∧ Cond.instanceMethod Lib.objectInit ∈ BIG ∧ Cond.code Lib.objectInit ⟨#[0xb1]⟩ 1 none ∈ BIG := ⟨m_588, m_60, m_61⟩
theorem iX0 : ∀ w ∈ u_ws RX0 TX0 3, w ∈ BIG := bms [593, 595, 597] (by decide +kernel) (by decide +kernel)
theorem fl_X0_9_0 : fL RX0 9 0 0 := ⟨RX0, TX0, 3, "WheelAndWire$Ask", rfl, rfl, by decide, by decide, m_589, Or.inl rfl, iX0⟩
theorem fp_0_0_f : fP 0 0 true RX0 .int := ⟨RX0, TX0, 3, tyX0, rfl, tyX0_ok, nmX0, rfl, fun _ => rfl, rfl⟩
theorem fl_X0_15_0 : fL RX0 15 0 1 := ⟨RX0, TX0, 3, "WheelAndWire$Ask", rfl, rfl, by decide, by decide, m_591, Or.inl rfl, iX0⟩
theorem fp_0_1_f : fP 0 1 true RX0 .int := ⟨RX0, TX0, 3, tyX0, rfl, tyX0_ok, nmX0, rfl, fun _ => rfl, rfl⟩
theorem fl_X0_18_0 : fL RX0 18 0 2 := ⟨RX0, TX0, 3, "WheelAndWire$Ask", rfl, rfl, by decide, by decide, m_592, Or.inl rfl, iX0⟩
theorem fp_0_2_f : fP 0 2 true RX0 .int := ⟨RX0, TX0, 3, tyX0, rfl, tyX0_ok, nmX0, rfl, fun _ => rfl, rfl⟩
theorem fl_X0_21_7 : fL RX0 21 7 6 := ⟨RX7, TX7, 13, "WheelAndWire$Piece", rfl, rfl, by decide, by decide, m_156, Or.inl rfl, iX7⟩
theorem vw_X0_26 : vW RX0 26 7 yX7_weight cX7_weight 1 (some .int) 0 := ⟨⟨_, rfl, by decide, rfl⟩, m_604, m_539, m_540, m_44, m_541, ⟨by decide +kernel, by decide +kernel, by decide +kernel⟩⟩
theorem fl_X0_29_7 : fL RX0 29 7 5 := ⟨RX7, TX7, 13, "WheelAndWire$Piece", rfl, rfl, by decide, by decide, m_153, Or.inl rfl, iX7⟩
theorem vw_X0_30 : vW RX0 30 0 yX0_fits cX0_fits 3 (some .boolean) 2 := ⟨⟨_, rfl, by decide, rfl⟩, m_605, m_606, m_607, m_53, m_608, ⟨by decide +kernel, by decide +kernel, by decide +kernel⟩⟩
theorem sw_X11_184 : sW RX11 184 yX11_isAsk cX11_isAsk 3 (some .boolean) 3 := ⟨rfl, m_580, m_581, m_40, m_582, ⟨by decide +kernel, by decide +kernel, by decide +kernel⟩⟩
theorem ow_X11_188 : oW RX11 188 0 := ⟨RX0, TX0, 3, tyX0, rfl, rfl, by decide, iX0, tyX0_ok, m_583, m_584, m_53, by decide +kernel⟩
theorem iw_X11_190 : iW RX11 190 yX0_init cX0_init 4 3 := ⟨rfl, m_585, m_586, m_53, m_587, ⟨by decide +kernel, by decide +kernel, by decide +kernel⟩⟩
theorem vw_X11_193 : vW RX11 193 0 yX0_isServedBy cX0_isServedBy 2 (some .boolean) 1 := ⟨⟨_, rfl, by decide, rfl⟩, m_600, m_601, m_602, m_53, m_603, ⟨by decide +kernel, by decide +kernel, by decide +kernel⟩⟩
theorem iX9 : ∀ w ∈ u_ws RX9 TX9 9, w ∈ BIG := bms [262, 264, 266, 268, 270, 272, 274, 276, 278] (by decide +kernel) (by decide +kernel)
theorem fl_X9_35_9 : fL RX9 35 9 1 := ⟨RX9, TX9, 9, "WheelAndWire$Shop", rfl, rfl, by decide, by decide, m_252, Or.inl rfl, iX9⟩
theorem fl_X9_39_1 : fL RX9 39 1 3 := ⟨RX1, TX1, 6, "WheelAndWire$Board", rfl, rfl, by decide, by decide, m_223, Or.inl rfl, iX1⟩
theorem fl_X9_45_1 : fL RX9 45 1 1 := ⟨RX1, TX1, 6, "WheelAndWire$Board", rfl, rfl, by decide, by decide, m_220, Or.inl rfl, iX1⟩
theorem vw_X9_49 : vW RX9 49 7 yX7_weight cX7_weight 1 (some .int) 0 := ⟨⟨_, rfl, by decide, rfl⟩, m_617, m_539, m_540, m_44, m_541, ⟨by decide +kernel, by decide +kernel, by decide +kernel⟩⟩
theorem vw_X9_53 : vW RX9 53 0 yX0_isServedBy cX0_isServedBy 2 (some .boolean) 1 := ⟨⟨_, rfl, by decide, rfl⟩, m_618, m_601, m_602, m_53, m_603, ⟨by decide +kernel, by decide +kernel, by decide +kernel⟩⟩
theorem fl_X11_41_11 : fL RX11 41 11 4 := ⟨RX11, TX11, 11, "WheelAndWire", rfl, rfl, by decide, by decide, m_393, Or.inl rfl, iX11⟩
theorem vw_X11_197 : vW RX11 197 9 yX9_lightestPiece cX9_lightestPiece 7 (some .int) 1 := ⟨⟨_, rfl, by decide, rfl⟩, m_613, m_614, m_615, m_45, m_616, ⟨by decide +kernel, by decide +kernel, by decide +kernel⟩⟩
theorem vw_X7_95 : vW RX7 95 7 yX7_isAcross cX7_isAcross 2 (some .boolean) 1 := ⟨⟨_, rfl, by decide, rfl⟩, m_636, m_637, m_638, m_44, m_639, ⟨by decide +kernel, by decide +kernel, by decide +kernel⟩⟩
theorem vw_X9_67 : vW RX9 67 7 yX7_isAcross cX7_isAcross 2 (some .boolean) 1 := ⟨⟨_, rfl, by decide, rfl⟩, m_640, m_637, m_638, m_44, m_639, ⟨by decide +kernel, by decide +kernel, by decide +kernel⟩⟩
theorem vw_X9_71 : vW RX9 71 7 yX7_cutAt cX7_cutAt 2 (some .int) 1 := ⟨⟨_, rfl, by decide, rfl⟩, m_641, m_642, m_643, m_44, m_644, ⟨by decide +kernel, by decide +kernel, by decide +kernel⟩⟩
theorem vw_X9_60 : vW RX9 60 7 yX7_cuts cX7_cuts 1 (some .int) 0 := ⟨⟨_, rfl, by decide, rfl⟩, m_628, m_629, m_630, m_44, m_631, ⟨by decide +kernel, by decide +kernel, by decide +kernel⟩⟩
theorem vw_X9_63 : vW RX9 63 7 yX7_cutEdges cX7_cutEdges 2 (some .int) 1 := ⟨⟨_, rfl, by decide, rfl⟩, m_632, m_633, m_634, m_44, m_635, ⟨by decide +kernel, by decide +kernel, by decide +kernel⟩⟩
theorem fl_X9_31_9 : fL RX9 31 9 0 := ⟨RX9, TX9, 9, "WheelAndWire$Shop", rfl, rfl, by decide, by decide, m_251, Or.inl rfl, iX9⟩
theorem fl_X9_12_9 : fL RX9 12 9 2 := ⟨RX9, TX9, 9, "WheelAndWire$Shop", rfl, rfl, by decide, by decide, m_253, Or.inl rfl, iX9⟩
theorem fl_X9_18_9 : fL RX9 18 9 3 := ⟨RX9, TX9, 9, "WheelAndWire$Shop", rfl, rfl, by decide, by decide, m_254, Or.inl rfl, iX9⟩
theorem vw_X9_74 : vW RX9 74 7 yX7_part cX7_part 6 none 5 := ⟨⟨_, rfl, by decide, rfl⟩, m_645, m_486, m_487, m_44, m_488, ⟨by decide +kernel, by decide +kernel, by decide +kernel⟩⟩
theorem vw_X9_78 : vW RX9 78 9 yX9_told cX9_told 5 (some .int) 3 := ⟨⟨_, rfl, by decide, rfl⟩, m_646, m_647, m_648, m_45, m_649, ⟨by decide +kernel, by decide +kernel, by decide +kernel⟩⟩
theorem vw_X11_201 : vW RX11 201 9 yX9_shortestCut cX9_shortestCut 8 (some .int) 1 := ⟨⟨_, rfl, by decide, rfl⟩, m_623, m_624, m_625, m_45, m_626, ⟨by decide +kernel, by decide +kernel, by decide +kernel⟩⟩
theorem vw_X9_82 : vW RX9 82 1 yX1_stillHas cX1_stillHas 2 (some .boolean) 1 := ⟨⟨_, rfl, by decide, rfl⟩, m_658, m_474, m_475, m_43, m_476, ⟨by decide +kernel, by decide +kernel, by decide +kernel⟩⟩
theorem vw_X9_85 : vW RX9 85 1 yX1_divide cX1_divide 4 (some .int) 3 := ⟨⟨_, rfl, by decide, rfl⟩, m_659, m_482, m_483, m_43, m_484, ⟨by decide +kernel, by decide +kernel, by decide +kernel⟩⟩
theorem vw_X11_204 : vW RX11 204 9 yX9_cutOff cX9_cutOff 4 (some .int) 1 := ⟨⟨_, rfl, by decide, rfl⟩, m_654, m_655, m_656, m_45, m_657, ⟨by decide +kernel, by decide +kernel, by decide +kernel⟩⟩
theorem fl_X9_21_9 : fL RX9 21 9 4 := ⟨RX9, TX9, 9, "WheelAndWire$Shop", rfl, rfl, by decide, by decide, m_255, Or.inl rfl, iX9⟩
theorem fl_X9_24_9 : fL RX9 24 9 5 := ⟨RX9, TX9, 9, "WheelAndWire$Shop", rfl, rfl, by decide, by decide, m_256, Or.inl rfl, iX9⟩
theorem fl_X9_27_9 : fL RX9 27 9 6 := ⟨RX9, TX9, 9, "WheelAndWire$Shop", rfl, rfl, by decide, by decide, m_257, Or.inl rfl, iX9⟩
theorem mw_X9_112 : Cond.methodLink RX9 112 Lib.Math.min.name ∈ BIG ∧ Cond.static Lib.Math.min.name ∈ BIG ∧ Cond.initialized "java/lang/Math" ∈ BIG ∧ Cond.code Lib.Math.min.name Lib.Math.min.code 2 (some .int) ∈ BIG := ⟨m_676, m_677, m_48, m_678⟩
theorem fl_X9_89_9 : fL RX9 89 9 7 := ⟨RX9, TX9, 9, "WheelAndWire$Shop", rfl, rfl, by decide, by decide, m_258, Or.inl rfl, iX9⟩
theorem fp_9_7 (o : String) : fP 9 7 false o .int := ⟨RX9, TX9, 9, tyX9, rfl, tyX9_ok, nmX9, rfl, fun e => Bool.noConfusion e, rfl⟩
theorem fl_X9_92_9 : fL RX9 92 9 8 := ⟨RX9, TX9, 9, "WheelAndWire$Shop", rfl, rfl, by decide, by decide, m_260, Or.inl rfl, iX9⟩
theorem fp_9_8 (o : String) : fP 9 8 false o .int := ⟨RX9, TX9, 9, tyX9, rfl, tyX9_ok, nmX9, rfl, fun e => Bool.noConfusion e, rfl⟩
theorem vw_X9_99 : vW RX9 99 9 yX9_laterWireElsewhere cX9_laterWireElsewhere 6 (some .int) 2 := ⟨⟨_, rfl, by decide, rfl⟩, m_672, m_673, m_674, m_45, m_675, ⟨by decide +kernel, by decide +kernel, by decide +kernel⟩⟩
theorem vw_X9_95 : vW RX9 95 9 yX9_laterWire cX9_laterWire 6 (some .int) 3 := ⟨⟨_, rfl, by decide, rfl⟩, m_668, m_669, m_670, m_45, m_671, ⟨by decide +kernel, by decide +kernel, by decide +kernel⟩⟩
theorem vw_X9_103 : vW RX9 103 9 yX9_weighWay cX9_weighWay 3 none 2 := ⟨⟨_, rfl, by decide, rfl⟩, m_679, m_680, m_681, m_45, m_682, ⟨by decide +kernel, by decide +kernel, by decide +kernel⟩⟩
theorem vw_X9_107 : vW RX9 107 9 yX9_tryCuts cX9_tryCuts 10 none 3 := ⟨⟨_, rfl, by decide, rfl⟩, m_683, m_684, m_685, m_45, m_686, ⟨by decide +kernel, by decide +kernel, by decide +kernel⟩⟩
theorem vw_X11_208 : vW RX11 208 9 yX9_lookTwoAhead cX9_lookTwoAhead 5 none 2 := ⟨⟨_, rfl, by decide, rfl⟩, m_664, m_665, m_666, m_45, m_667, ⟨by decide +kernel, by decide +kernel, by decide +kernel⟩⟩
theorem fl_X11_212_9 : fL RX11 212 9 7 := ⟨RX9, TX9, 9, "WheelAndWire$Shop", rfl, rfl, by decide, by decide, m_259, Or.inl rfl, iX9⟩
theorem fl_X11_216_9 : fL RX11 216 9 8 := ⟨RX9, TX9, 9, "WheelAndWire$Shop", rfl, rfl, by decide, by decide, m_261, Or.inl rfl, iX9⟩
theorem fl_X6_21_6 : fL RX6 21 6 5 := ⟨RX6, TX6, 7, "WheelAndWire$OrderPlan", rfl, rfl, by decide, by decide, m_297, Or.inl rfl, iX6⟩
theorem fl_X6_11_6 : fL RX6 11 6 3 := ⟨RX6, TX6, 7, "WheelAndWire$OrderPlan", rfl, rfl, by decide, by decide, m_295, Or.inl rfl, iX6⟩
theorem fp_6_5 (o : String) : fP 6 5 false o .int := ⟨RX6, TX6, 7, tyX6, rfl, tyX6_ok, nmX6, rfl, fun e => Bool.noConfusion e, rfl⟩
theorem fl_X6_25_6 : fL RX6 25 6 6 := ⟨RX6, TX6, 7, "WheelAndWire$OrderPlan", rfl, rfl, by decide, by decide, m_299, Or.inl rfl, iX6⟩
theorem fl_X11_219_6 : fL RX11 219 6 5 := ⟨RX6, TX6, 7, "WheelAndWire$OrderPlan", rfl, rfl, by decide, by decide, m_298, Or.inl rfl, iX6⟩
theorem vw_X11_222 : vW RX11 222 6 yX6_enter cX6_enter 2 none 1 := ⟨⟨_, rfl, by decide, rfl⟩, m_697, m_698, m_699, m_47, m_700, ⟨by decide +kernel, by decide +kernel, by decide +kernel⟩⟩
theorem vw_X11_226 : vW RX11 226 6 yX6_empty cX6_empty 1 none 0 := ⟨⟨_, rfl, by decide, rfl⟩, m_705, m_706, m_707, m_47, m_708, ⟨by decide +kernel, by decide +kernel, by decide +kernel⟩⟩
theorem vw_X6_33 : vW RX6 33 6 yX6_everyAsk cX6_everyAsk 1 (some .int) 0 := ⟨⟨_, rfl, by decide, rfl⟩, m_721, m_722, m_723, m_47, m_724, ⟨by decide +kernel, by decide +kernel, by decide +kernel⟩⟩
theorem fl_X6_45_0 : fL RX6 45 0 0 := ⟨RX0, TX0, 3, "WheelAndWire$Ask", rfl, rfl, by decide, by decide, m_590, Or.inl rfl, iX0⟩
theorem fl_X6_17_6 : fL RX6 17 6 4 := ⟨RX6, TX6, 7, "WheelAndWire$OrderPlan", rfl, rfl, by decide, by decide, m_296, Or.inl rfl, iX6⟩
theorem fl_X8_21_6 : fL RX8 21 6 1 := ⟨RX6, TX6, 7, "WheelAndWire$Plan", rfl, rfl, by decide, by decide, m_306, Or.inl rfl, iX6⟩
theorem fl_X6_49_6 : fL RX6 49 6 0 := ⟨RX6, TX6, 7, "WheelAndWire$OrderPlan", rfl, rfl, by decide, by decide, m_304, Or.inr m_305, iX6⟩
theorem vw_X6_65 : vW RX6 65 4 yX4_weightIn cX4_weightIn 5 (some .int) 4 := ⟨⟨_, rfl, by decide, rfl⟩, m_766, m_203, m_204, m_42, m_205, ⟨by decide +kernel, by decide +kernel, by decide +kernel⟩⟩
theorem vw_X6_69 : vW RX6 69 4 yX4_rindIn cX4_rindIn 5 (some .int) 4 := ⟨⟨_, rfl, by decide, rfl⟩, m_768, m_211, m_212, m_42, m_213, ⟨by decide +kernel, by decide +kernel, by decide +kernel⟩⟩
theorem vw_X6_72 : vW RX6 72 0 yX0_fits cX0_fits 3 (some .boolean) 2 := ⟨⟨_, rfl, by decide, rfl⟩, m_769, m_606, m_607, m_53, m_608, ⟨by decide +kernel, by decide +kernel, by decide +kernel⟩⟩
theorem fl_X8_25_6 : fL RX8 25 6 2 := ⟨RX6, TX6, 7, "WheelAndWire$Plan", rfl, rfl, by decide, by decide, m_307, Or.inl rfl, iX6⟩
theorem uw_X8_44_6 : uW RX8 44 6 "WheelAndWire$Plan" yX8_spotOf yX8_spotOf cX8_spotOf 7 (some .int) 4 := ⟨_, rfl, by decide, m_739, m_741, m_744, m_740, m_46, m_745, ⟨by decide +kernel, by decide +kernel, by decide +kernel⟩, Or.inl rfl⟩
theorem uw_X8_60_6 : uW RX8 60 6 "WheelAndWire$Plan" ⟨"WheelAndWire$Plan", "cutPrice", "(I)I"⟩ yX6_cutPrice cX6_cutPrice 2 (some .int) 1 := ⟨_, rfl, by decide, m_785, m_787, m_794, m_795, m_47, m_796, ⟨by decide +kernel, by decide +kernel, by decide +kernel⟩, Or.inr (by decide +kernel)⟩
theorem uw_X8_64_6 : uW RX8 64 6 "WheelAndWire$Plan" yX8_bothCost yX8_bothCost cX8_bothCost 7 (some .int) 3 := ⟨_, rfl, by decide, m_797, m_799, m_802, m_798, m_46, m_803, ⟨by decide +kernel, by decide +kernel, by decide +kernel⟩, Or.inl rfl⟩
theorem uw_X8_56_6 : uW RX8 56 6 "WheelAndWire$Plan" yX8_cutCost yX8_cutCost cX8_cutCost 10 (some .int) 7 := ⟨_, rfl, by decide, m_778, m_780, m_783, m_779, m_46, m_784, ⟨by decide +kernel, by decide +kernel, by decide +kernel⟩, Or.inl rfl⟩
theorem mw_X8_37 : Cond.methodLink RX8 37 Lib.Math.min.name ∈ BIG ∧ Cond.static Lib.Math.min.name ∈ BIG ∧ Cond.initialized "java/lang/Math" ∈ BIG ∧ Cond.code Lib.Math.min.name Lib.Math.min.code 2 (some .int) ∈ BIG := ⟨m_731, m_677, m_48, m_678⟩
theorem uw_X8_48_6 : uW RX8 48 6 "WheelAndWire$Plan" ⟨"WheelAndWire$Plan", "verdict", "(IIIII)I"⟩ yX6_verdict cX6_verdict 8 (some .int) 5 := ⟨_, rfl, by decide, m_746, m_748, m_763, m_764, m_47, m_765, ⟨by decide +kernel, by decide +kernel, by decide +kernel⟩, Or.inr (by decide +kernel)⟩
theorem uw_X8_52_6 : uW RX8 52 6 "WheelAndWire$Plan" yX8_leastCut yX8_leastCut cX8_leastCut 8 (some .int) 5 := ⟨_, rfl, by decide, m_770, m_772, m_775, m_771, m_46, m_776, ⟨by decide +kernel, by decide +kernel, by decide +kernel⟩, Or.inl rfl⟩
theorem fl_X8_9_6 : fL RX8 9 6 0 := ⟨RX6, TX6, 7, "WheelAndWire$Plan", rfl, rfl, by decide, by decide, m_301, Or.inl rfl, iX6⟩
theorem fl_X8_29_4 : fL RX8 29 4 3 := ⟨RX4, TX4, 7, "WheelAndWire$Form", rfl, rfl, by decide, by decide, m_104, Or.inl rfl, iX4⟩
theorem fl_X8_34_4 : fL RX8 34 4 4 := ⟨RX4, TX4, 7, "WheelAndWire$Form", rfl, rfl, by decide, by decide, m_110, Or.inl rfl, iX4⟩
theorem uw_X8_40_6 : uW RX8 40 6 "WheelAndWire$Plan" yX8_settle yX8_settle cX8_settle 9 none 5 := ⟨_, rfl, by decide, m_732, m_734, m_737, m_733, m_46, m_738, ⟨by decide +kernel, by decide +kernel, by decide +kernel⟩, Or.inl rfl⟩
theorem vw_X6_29 : vW RX6 29 6 yX6_addUpWishes cX6_addUpWishes 4 none 0 := ⟨⟨_, rfl, by decide, rfl⟩, m_717, m_718, m_719, m_47, m_720, ⟨by decide +kernel, by decide +kernel, by decide +kernel⟩⟩
theorem uw_X6_37_6 : uW RX6 37 6 "WheelAndWire$Plan" ⟨"WheelAndWire$OrderPlan", "workOut", "(I)V"⟩ yX8_workOut cX8_workOut 6 none 1 := ⟨_, rfl, by decide, m_725, m_726, m_728, m_729, m_46, m_730, ⟨by decide +kernel, by decide +kernel, by decide +kernel⟩, Or.inl rfl⟩
theorem uw_X6_41_6 : uW RX6 41 6 "WheelAndWire$Plan" ⟨"WheelAndWire$OrderPlan", "costOfAll", "(I)I"⟩ yX8_costOfAll cX8_costOfAll 2 (some .int) 1 := ⟨_, rfl, by decide, m_804, m_805, m_807, m_808, m_46, m_809, ⟨by decide +kernel, by decide +kernel, by decide +kernel⟩, Or.inl rfl⟩
theorem vw_X11_227 : vW RX11 227 6 yX6_shortest cX6_shortest 1 (some .int) 0 := ⟨⟨_, rfl, by decide, rfl⟩, m_713, m_714, m_715, m_47, m_716, ⟨by decide +kernel, by decide +kernel, by decide +kernel⟩⟩
theorem fl_X6_53_4 : fL RX6 53 4 3 := ⟨RX4, TX4, 7, "WheelAndWire$Form", rfl, rfl, by decide, by decide, m_106, Or.inl rfl, iX4⟩
theorem fl_X6_58_4 : fL RX6 58 4 4 := ⟨RX4, TX4, 7, "WheelAndWire$Form", rfl, rfl, by decide, by decide, m_112, Or.inl rfl, iX4⟩
theorem uw_X6_61_6 : uW RX6 61 6 "WheelAndWire$Plan" ⟨"WheelAndWire$OrderPlan", "cutCost", "(IIIIZII)I"⟩ yX8_cutCost cX8_cutCost 10 (some .int) 7 := ⟨_, rfl, by decide, m_818, m_819, m_821, m_779, m_46, m_784, ⟨by decide +kernel, by decide +kernel, by decide +kernel⟩, Or.inl rfl⟩
theorem vw_X11_230 : vW RX11 230 6 yX6_firstCut cX6_firstCut 3 (some .int) 1 := ⟨⟨_, rfl, by decide, rfl⟩, m_814, m_815, m_816, m_47, m_817, ⟨by decide +kernel, by decide +kernel, by decide +kernel⟩⟩
theorem iX3 : ∀ w ∈ u_ws RX3 TX3 5, w ∈ BIG := bms [335, 336, 337, 331, 333] (by decide +kernel) (by decide +kernel)
theorem fl_X8_21_3 : fL RX8 21 3 1 := ⟨RX3, TX3, 5, "WheelAndWire$Plan", rfl, rfl, by decide, by decide, m_306, Or.inl rfl, iX3⟩
theorem fl_X3_15_3 : fL RX3 15 3 0 := ⟨RX3, TX3, 5, "WheelAndWire$FairPlan", rfl, rfl, by decide, by decide, m_302, Or.inr m_303, iX3⟩
theorem vw_X3_27 : vW RX3 27 4 yX4_weightIn cX4_weightIn 5 (some .int) 4 := ⟨⟨_, rfl, by decide, rfl⟩, m_752, m_203, m_204, m_42, m_205, ⟨by decide +kernel, by decide +kernel, by decide +kernel⟩⟩
theorem fl_X3_9_3 : fL RX3 9 3 3 := ⟨RX3, TX3, 5, "WheelAndWire$FairPlan", rfl, rfl, by decide, by decide, m_329, Or.inl rfl, iX3⟩
theorem vw_X3_31 : vW RX3 31 4 yX4_rindIn cX4_rindIn 5 (some .int) 4 := ⟨⟨_, rfl, by decide, rfl⟩, m_754, m_211, m_212, m_42, m_213, ⟨by decide +kernel, by decide +kernel, by decide +kernel⟩⟩
theorem fl_X3_35_3 : fL RX3 35 3 4 := ⟨RX3, TX3, 5, "WheelAndWire$FairPlan", rfl, rfl, by decide, by decide, m_330, Or.inl rfl, iX3⟩
theorem fl_X8_25_3 : fL RX8 25 3 2 := ⟨RX3, TX3, 5, "WheelAndWire$Plan", rfl, rfl, by decide, by decide, m_307, Or.inl rfl, iX3⟩
theorem uw_X8_44_3 : uW RX8 44 3 "WheelAndWire$Plan" yX8_spotOf yX8_spotOf cX8_spotOf 7 (some .int) 4 := ⟨_, rfl, by decide, m_739, m_741, m_742, m_740, m_46, m_745, ⟨by decide +kernel, by decide +kernel, by decide +kernel⟩, Or.inl rfl⟩
theorem uw_X8_60_3 : uW RX8 60 3 "WheelAndWire$Plan" ⟨"WheelAndWire$Plan", "cutPrice", "(I)I"⟩ yX3_cutPrice cX3_cutPrice 2 (some .int) 1 := ⟨_, rfl, by decide, m_785, m_787, m_788, m_789, m_49, m_790, ⟨by decide +kernel, by decide +kernel, by decide +kernel⟩, Or.inr (by decide +kernel)⟩
theorem uw_X8_64_3 : uW RX8 64 3 "WheelAndWire$Plan" yX8_bothCost yX8_bothCost cX8_bothCost 7 (some .int) 3 := ⟨_, rfl, by decide, m_797, m_799, m_800, m_798, m_46, m_803, ⟨by decide +kernel, by decide +kernel, by decide +kernel⟩, Or.inl rfl⟩
theorem uw_X8_56_3 : uW RX8 56 3 "WheelAndWire$Plan" yX8_cutCost yX8_cutCost cX8_cutCost 10 (some .int) 7 := ⟨_, rfl, by decide, m_778, m_780, m_781, m_779, m_46, m_784, ⟨by decide +kernel, by decide +kernel, by decide +kernel⟩, Or.inl rfl⟩
theorem uw_X8_48_3 : uW RX8 48 3 "WheelAndWire$Plan" ⟨"WheelAndWire$Plan", "verdict", "(IIIII)I"⟩ yX3_verdict cX3_verdict 8 (some .int) 5 := ⟨_, rfl, by decide, m_746, m_748, m_749, m_750, m_49, m_751, ⟨by decide +kernel, by decide +kernel, by decide +kernel⟩, Or.inr (by decide +kernel)⟩
theorem uw_X8_52_3 : uW RX8 52 3 "WheelAndWire$Plan" yX8_leastCut yX8_leastCut cX8_leastCut 8 (some .int) 5 := ⟨_, rfl, by decide, m_770, m_772, m_773, m_771, m_46, m_776, ⟨by decide +kernel, by decide +kernel, by decide +kernel⟩, Or.inl rfl⟩
theorem fl_X8_9_3 : fL RX8 9 3 0 := ⟨RX3, TX3, 5, "WheelAndWire$Plan", rfl, rfl, by decide, by decide, m_301, Or.inl rfl, iX3⟩
theorem uw_X8_40_3 : uW RX8 40 3 "WheelAndWire$Plan" yX8_settle yX8_settle cX8_settle 9 none 5 := ⟨_, rfl, by decide, m_732, m_734, m_735, m_733, m_46, m_738, ⟨by decide +kernel, by decide +kernel, by decide +kernel⟩, Or.inl rfl⟩
theorem fl_X3_19_4 : fL RX3 19 4 3 := ⟨RX4, TX4, 7, "WheelAndWire$Form", rfl, rfl, by decide, by decide, m_102, Or.inl rfl, iX4⟩
theorem fl_X3_24_4 : fL RX3 24 4 4 := ⟨RX4, TX4, 7, "WheelAndWire$Form", rfl, rfl, by decide, by decide, m_108, Or.inl rfl, iX4⟩
theorem fp_3_3 (o : String) : fP 3 3 false o .int := ⟨RX3, TX3, 5, tyX3, rfl, tyX3_ok, nmX3, rfl, fun e => Bool.noConfusion e, rfl⟩
theorem fp_3_4 (o : String) : fP 3 4 false o .int := ⟨RX3, TX3, 5, tyX3, rfl, tyX3_ok, nmX3, rfl, fun e => Bool.noConfusion e, rfl⟩
theorem uw_X3_38_3 : uW RX3 38 3 "WheelAndWire$Plan" ⟨"WheelAndWire$FairPlan", "workOut", "(I)V"⟩ yX8_workOut cX8_workOut 6 none 1 := ⟨_, rfl, by decide, m_830, m_831, m_832, m_729, m_46, m_730, ⟨by decide +kernel, by decide +kernel, by decide +kernel⟩, Or.inl rfl⟩
theorem uw_X3_42_3 : uW RX3 42 3 "WheelAndWire$Plan" ⟨"WheelAndWire$FairPlan", "costOfAll", "(I)I"⟩ yX8_costOfAll cX8_costOfAll 2 (some .int) 1 := ⟨_, rfl, by decide, m_833, m_834, m_835, m_808, m_46, m_809, ⟨by decide +kernel, by decide +kernel, by decide +kernel⟩, Or.inl rfl⟩
theorem fl_X11_55_11 : fL RX11 55 11 6 := ⟨RX11, TX11, 11, "WheelAndWire", rfl, rfl, by decide, by decide, m_395, Or.inl rfl, iX11⟩
theorem vw_X11_233 : vW RX11 233 3 yX3_shortest cX3_shortest 4 (some .int) 1 := ⟨⟨_, rfl, by decide, rfl⟩, m_826, m_827, m_828, m_49, m_829, ⟨by decide +kernel, by decide +kernel, by decide +kernel⟩⟩
theorem fl_X5_9_5 : fL RX5 9 5 3 := ⟨RX5, TX5, 9, "WheelAndWire$LeftPlan", rfl, rfl, by decide, by decide, m_345, Or.inl rfl, iX5⟩
theorem fl_X5_15_5 : fL RX5 15 5 4 := ⟨RX5, TX5, 9, "WheelAndWire$LeftPlan", rfl, rfl, by decide, by decide, m_346, Or.inl rfl, iX5⟩
theorem fl_X5_18_5 : fL RX5 18 5 5 := ⟨RX5, TX5, 9, "WheelAndWire$LeftPlan", rfl, rfl, by decide, by decide, m_347, Or.inl rfl, iX5⟩
theorem fl_X5_21_5 : fL RX5 21 5 6 := ⟨RX5, TX5, 9, "WheelAndWire$LeftPlan", rfl, rfl, by decide, by decide, m_348, Or.inl rfl, iX5⟩
theorem vw_X5_32 : vW RX5 32 5 yX5_isApart cX5_isApart 6 (some .boolean) 5 := ⟨⟨_, rfl, by decide, rfl⟩, m_758, m_759, m_760, m_50, m_761, ⟨by decide +kernel, by decide +kernel, by decide +kernel⟩⟩
theorem vw_X11_235 : vW RX11 235 5 yX5_touches cX5_touches 6 (some .boolean) 4 := ⟨⟨_, rfl, by decide, rfl⟩, m_840, m_841, m_842, m_50, m_843, ⟨by decide +kernel, by decide +kernel, by decide +kernel⟩⟩
theorem fl_X11_238_5 : fL RX11 238 5 7 := ⟨RX5, TX5, 9, "WheelAndWire$LeftPlan", rfl, rfl, by decide, by decide, m_350, Or.inl rfl, iX5⟩
theorem vw_X11_239 : vW RX11 239 5 yX5_enter cX5_enter 5 none 4 := ⟨⟨_, rfl, by decide, rfl⟩, m_844, m_845, m_846, m_50, m_847, ⟨by decide +kernel, by decide +kernel, by decide +kernel⟩⟩
theorem fl_X8_21_5 : fL RX8 21 5 1 := ⟨RX5, TX5, 9, "WheelAndWire$Plan", rfl, rfl, by decide, by decide, m_306, Or.inl rfl, iX5⟩
theorem fl_X8_25_5 : fL RX8 25 5 2 := ⟨RX5, TX5, 9, "WheelAndWire$Plan", rfl, rfl, by decide, by decide, m_307, Or.inl rfl, iX5⟩
theorem uw_X8_44_5 : uW RX8 44 5 "WheelAndWire$Plan" yX8_spotOf yX8_spotOf cX8_spotOf 7 (some .int) 4 := ⟨_, rfl, by decide, m_739, m_741, m_743, m_740, m_46, m_745, ⟨by decide +kernel, by decide +kernel, by decide +kernel⟩, Or.inl rfl⟩
theorem uw_X8_60_5 : uW RX8 60 5 "WheelAndWire$Plan" ⟨"WheelAndWire$Plan", "cutPrice", "(I)I"⟩ yX5_cutPrice cX5_cutPrice 2 (some .int) 1 := ⟨_, rfl, by decide, m_785, m_787, m_791, m_792, m_50, m_793, ⟨by decide +kernel, by decide +kernel, by decide +kernel⟩, Or.inr (by decide +kernel)⟩
theorem uw_X8_64_5 : uW RX8 64 5 "WheelAndWire$Plan" yX8_bothCost yX8_bothCost cX8_bothCost 7 (some .int) 3 := ⟨_, rfl, by decide, m_797, m_799, m_801, m_798, m_46, m_803, ⟨by decide +kernel, by decide +kernel, by decide +kernel⟩, Or.inl rfl⟩
theorem uw_X8_56_5 : uW RX8 56 5 "WheelAndWire$Plan" yX8_cutCost yX8_cutCost cX8_cutCost 10 (some .int) 7 := ⟨_, rfl, by decide, m_778, m_780, m_782, m_779, m_46, m_784, ⟨by decide +kernel, by decide +kernel, by decide +kernel⟩, Or.inl rfl⟩
theorem uw_X8_48_5 : uW RX8 48 5 "WheelAndWire$Plan" ⟨"WheelAndWire$Plan", "verdict", "(IIIII)I"⟩ yX5_verdict cX5_verdict 10 (some .int) 5 := ⟨_, rfl, by decide, m_746, m_748, m_755, m_756, m_50, m_757, ⟨by decide +kernel, by decide +kernel, by decide +kernel⟩, Or.inr (by decide +kernel)⟩
theorem uw_X8_52_5 : uW RX8 52 5 "WheelAndWire$Plan" yX8_leastCut yX8_leastCut cX8_leastCut 8 (some .int) 5 := ⟨_, rfl, by decide, m_770, m_772, m_774, m_771, m_46, m_776, ⟨by decide +kernel, by decide +kernel, by decide +kernel⟩, Or.inl rfl⟩
theorem fl_X8_9_5 : fL RX8 9 5 0 := ⟨RX5, TX5, 9, "WheelAndWire$Plan", rfl, rfl, by decide, by decide, m_301, Or.inl rfl, iX5⟩
theorem uw_X8_40_5 : uW RX8 40 5 "WheelAndWire$Plan" yX8_settle yX8_settle cX8_settle 9 none 5 := ⟨_, rfl, by decide, m_732, m_734, m_736, m_733, m_46, m_738, ⟨by decide +kernel, by decide +kernel, by decide +kernel⟩, Or.inl rfl⟩
theorem uw_X5_36_5 : uW RX5 36 5 "WheelAndWire$Plan" ⟨"WheelAndWire$LeftPlan", "workOut", "(I)V"⟩ yX8_workOut cX8_workOut 6 none 1 := ⟨_, rfl, by decide, m_856, m_857, m_858, m_729, m_46, m_730, ⟨by decide +kernel, by decide +kernel, by decide +kernel⟩, Or.inl rfl⟩
theorem uw_X5_40_5 : uW RX5 40 5 "WheelAndWire$Plan" ⟨"WheelAndWire$LeftPlan", "costOfAll", "(I)I"⟩ yX8_costOfAll cX8_costOfAll 2 (some .int) 1 := ⟨_, rfl, by decide, m_859, m_860, m_861, m_808, m_46, m_809, ⟨by decide +kernel, by decide +kernel, by decide +kernel⟩, Or.inl rfl⟩
theorem vw_X11_242 : vW RX11 242 5 yX5_fewest cX5_fewest 1 (some .int) 0 := ⟨⟨_, rfl, by decide, rfl⟩, m_852, m_853, m_854, m_50, m_855, ⟨by decide +kernel, by decide +kernel, by decide +kernel⟩⟩
theorem fl_X11_245_4 : fL RX11 245 4 5 := ⟨RX4, TX4, 7, "WheelAndWire$Form", rfl, rfl, by decide, by decide, m_114, Or.inl rfl, iX4⟩
theorem fl_X11_248_4 : fL RX11 248 4 6 := ⟨RX4, TX4, 7, "WheelAndWire$Form", rfl, rfl, by decide, by decide, m_116, Or.inl rfl, iX4⟩
theorem fp_4_5 (o : String) : fP 4 5 false o .int := ⟨RX4, TX4, 7, tyX4, rfl, tyX4_ok, nmX4, rfl, fun e => Bool.noConfusion e, rfl⟩
theorem fp_4_6 (o : String) : fP 4 6 false o .int := ⟨RX4, TX4, 7, tyX4, rfl, tyX4_ok, nmX4, rfl, fun e => Bool.noConfusion e, rfl⟩
theorem mw_X4_64 : Cond.methodLink RX4 64 Lib.Math.min.name ∈ BIG ∧ Cond.static Lib.Math.min.name ∈ BIG ∧ Cond.initialized "java/lang/Math" ∈ BIG ∧ Cond.code Lib.Math.min.name Lib.Math.min.code 2 (some .int) ∈ BIG := ⟨m_884, m_677, m_48, m_678⟩
theorem fl_X4_28_4 : fL RX4 28 4 5 := ⟨RX4, TX4, 7, "WheelAndWire$Form", rfl, rfl, by decide, by decide, m_113, Or.inl rfl, iX4⟩
theorem fl_X4_31_4 : fL RX4 31 4 6 := ⟨RX4, TX4, 7, "WheelAndWire$Form", rfl, rfl, by decide, by decide, m_115, Or.inl rfl, iX4⟩
theorem vw_X7_110 : vW RX7 110 4 yX4_isRipe cX4_isRipe 6 (some .boolean) 3 := ⟨⟨_, rfl, by decide, rfl⟩, m_880, m_881, m_882, m_42, m_883, ⟨by decide +kernel, by decide +kernel, by decide +kernel⟩⟩
theorem vw_X7_107 : vW RX7 107 4 yX4_kindAt cX4_kindAt 4 (some .int) 2 := ⟨⟨_, rfl, by decide, rfl⟩, m_889, m_90, m_91, m_42, m_92, ⟨by decide +kernel, by decide +kernel, by decide +kernel⟩⟩
theorem mw_X11_312 : Cond.methodLink RX11 312 Lib.MathLoose.abs_long.x ∈ BIG ∧ Cond.static Lib.MathLoose.abs_long.x ∈ BIG ∧ Cond.initialized "java/lang/Math" ∈ BIG ∧ Cond.code Lib.MathLoose.abs_long.x Lib.MathLoose.abs_long.code 2 (some .long) ∈ BIG := ⟨m_894, m_895, m_48, m_896⟩
theorem mw_X11_316 : Cond.methodLink RX11 316 Lib.MathLoose.max_long.x ∈ BIG ∧ Cond.static Lib.MathLoose.max_long.x ∈ BIG ∧ Cond.initialized "java/lang/Math" ∈ BIG ∧ Cond.code Lib.MathLoose.max_long.x Lib.MathLoose.max_long.code 4 (some .long) ∈ BIG := ⟨m_897, m_898, m_48, m_899⟩
theorem vw_X11_255 : vW RX11 255 7 yX7_ripePlaces cX7_ripePlaces 6 (some .int) 2 := ⟨⟨_, rfl, by decide, rfl⟩, m_876, m_877, m_878, m_44, m_879, ⟨by decide +kernel, by decide +kernel, by decide +kernel⟩⟩
theorem vw_X11_259 : vW RX11 259 7 yX7_pastePlaces cX7_pastePlaces 5 (some .int) 1 := ⟨⟨_, rfl, by decide, rfl⟩, m_885, m_886, m_887, m_44, m_888, ⟨by decide +kernel, by decide +kernel, by decide +kernel⟩⟩
theorem mw_X11_262 : Cond.methodLink RX11 262 Lib.Math.max.name ∈ BIG ∧ Cond.static Lib.Math.max.name ∈ BIG ∧ Cond.initialized "java/lang/Math" ∈ BIG ∧ Cond.code Lib.Math.max.name Lib.Math.max.code 2 (some .int) ∈ BIG := ⟨m_890, m_291, m_48, m_292⟩
theorem sw_X11_267 : sW RX11 267 yX11_commonDivisor cX11_commonDivisor 11 (some .long) 2 := ⟨rfl, m_891, m_892, m_40, m_893, ⟨by decide +kernel, by decide +kernel, by decide +kernel⟩⟩
theorem vw_X1_59 : vW RX1 59 7 yX7_ripePlaces cX7_ripePlaces 6 (some .int) 2 := ⟨⟨_, rfl, by decide, rfl⟩, m_908, m_877, m_878, m_44, m_879, ⟨by decide +kernel, by decide +kernel, by decide +kernel⟩⟩
theorem vw_X1_63 : vW RX1 63 7 yX7_pastePlaces cX7_pastePlaces 5 (some .int) 1 := ⟨⟨_, rfl, by decide, rfl⟩, m_909, m_886, m_887, m_44, m_888, ⟨by decide +kernel, by decide +kernel, by decide +kernel⟩⟩
theorem mw_X1_67 : Cond.methodLink RX1 67 Lib.Math.max.name ∈ BIG ∧ Cond.static Lib.Math.max.name ∈ BIG ∧ Cond.initialized "java/lang/Math" ∈ BIG ∧ Cond.code Lib.Math.max.name Lib.Math.max.code 2 (some .int) ∈ BIG := ⟨m_910, m_291, m_48, m_292⟩
theorem vw_X11_271 : vW RX11 271 1 yX1_ripestPiece cX1_ripestPiece 8 (some .int) 1 := ⟨⟨_, rfl, by decide, rfl⟩, m_904, m_905, m_906, m_43, m_907, ⟨by decide +kernel, by decide +kernel, by decide +kernel⟩⟩
theorem iX2 : ∀ w ∈ u_ws RX2 TX2 4, w ∈ BIG := bms [380, 382, 384, 386] (by decide +kernel) (by decide +kernel)
theorem fl_X2_21_2 : fL RX2 21 2 3 := ⟨RX2, TX2, 4, "WheelAndWire$Books", rfl, rfl, by decide, by decide, m_378, Or.inl rfl, iX2⟩
theorem fl_X2_9_2 : fL RX2 9 2 0 := ⟨RX2, TX2, 4, "WheelAndWire$Books", rfl, rfl, by decide, by decide, m_374, Or.inl rfl, iX2⟩
theorem fp_2_3 (o : String) : fP 2 3 false o .int := ⟨RX2, TX2, 4, tyX2, rfl, tyX2_ok, nmX2, rfl, fun e => Bool.noConfusion e, rfl⟩
theorem fl_X11_69_11 : fL RX11 69 11 8 := ⟨RX11, TX11, 11, "WheelAndWire", rfl, rfl, by decide, by decide, m_397, Or.inl rfl, iX11⟩
theorem fl_X11_274_2 : fL RX11 274 2 3 := ⟨RX2, TX2, 4, "WheelAndWire$Books", rfl, rfl, by decide, by decide, m_379, Or.inl rfl, iX2⟩
theorem vw_X11_277 : vW RX11 277 2 yX2_enter cX2_enter 2 none 1 := ⟨⟨_, rfl, by decide, rfl⟩, m_915, m_916, m_917, m_51, m_918, ⟨by decide +kernel, by decide +kernel, by decide +kernel⟩⟩
theorem vw_X11_279 : vW RX11 279 2 yX2_earnings cX2_earnings 4 (some .int) 1 := ⟨⟨_, rfl, by decide, rfl⟩, m_923, m_924, m_925, m_51, m_926, ⟨by decide +kernel, by decide +kernel, by decide +kernel⟩⟩
theorem vw_X2_25 : vW RX2 25 2 yX2_earnings cX2_earnings 4 (some .int) 1 := ⟨⟨_, rfl, by decide, rfl⟩, m_935, m_924, m_925, m_51, m_926, ⟨by decide +kernel, by decide +kernel, by decide +kernel⟩⟩
theorem vw_X11_282 : vW RX11 282 2 yX2_dearestOver cX2_dearestOver 5 (some .int) 0 := ⟨⟨_, rfl, by decide, rfl⟩, m_931, m_932, m_933, m_51, m_934, ⟨by decide +kernel, by decide +kernel, by decide +kernel⟩⟩
theorem fl_X2_15_2 : fL RX2 15 2 1 := ⟨RX2, TX2, 4, "WheelAndWire$Books", rfl, rfl, by decide, by decide, m_375, Or.inl rfl, iX2⟩
theorem fl_X2_18_2 : fL RX2 18 2 2 := ⟨RX2, TX2, 4, "WheelAndWire$Books", rfl, rfl, by decide, by decide, m_377, Or.inl rfl, iX2⟩
theorem vw_X11_285 : vW RX11 285 2 yX2_enterTaste cX2_enterTaste 3 none 2 := ⟨⟨_, rfl, by decide, rfl⟩, m_940, m_941, m_942, m_51, m_943, ⟨by decide +kernel, by decide +kernel, by decide +kernel⟩⟩
theorem fl_X11_289_2 : fL RX11 289 2 1 := ⟨RX2, TX2, 4, "WheelAndWire$Books", rfl, rfl, by decide, by decide, m_376, Or.inl rfl, iX2⟩
theorem vw_X2_31 : vW RX2 31 2 yX2_gainBelow cX2_gainBelow 2 (some .long) 1 := ⟨⟨_, rfl, by decide, rfl⟩, m_953, m_954, m_955, m_51, m_956, ⟨by decide +kernel, by decide +kernel, by decide +kernel⟩⟩
theorem vw_X11_292 : vW RX11 292 2 yX2_gainAbove cX2_gainAbove 2 (some .long) 1 := ⟨⟨_, rfl, by decide, rfl⟩, m_948, m_949, m_950, m_51, m_951, ⟨by decide +kernel, by decide +kernel, by decide +kernel⟩⟩
theorem vw_X11_296 : vW RX11 296 2 yX2_gainBelow cX2_gainBelow 2 (some .long) 1 := ⟨⟨_, rfl, by decide, rfl⟩, m_958, m_954, m_955, m_51, m_956, ⟨by decide +kernel, by decide +kernel, by decide +kernel⟩⟩
theorem vw_X2_37 : vW RX2 37 2 yX2_gainAbove cX2_gainAbove 2 (some .long) 1 := ⟨⟨_, rfl, by decide, rfl⟩, m_968, m_949, m_950, m_51, m_951, ⟨by decide +kernel, by decide +kernel, by decide +kernel⟩⟩
theorem vw_X11_301 : vW RX11 301 2 yX2_dearestTastes cX2_dearestTastes 3 (some .int) 0 := ⟨⟨_, rfl, by decide, rfl⟩, m_964, m_965, m_966, m_51, m_967, ⟨by decide +kernel, by decide +kernel, by decide +kernel⟩⟩
theorem fl_X11_73_11 : fL RX11 73 11 9 := ⟨RX11, TX11, 11, "WheelAndWire", rfl, rfl, by decide, by decide, m_398, Or.inl rfl, iX11⟩
theorem fl_X11_77_11 : fL RX11 77 11 10 := ⟨RX11, TX11, 11, "WheelAndWire", rfl, rfl, by decide, by decide, m_399, Or.inl rfl, iX11⟩
theorem fp_11_9 (o : String) : fP 11 9 false o .int := ⟨RX11, TX11, 11, tyX11, rfl, tyX11_ok, nmX11, rfl, fun e => Bool.noConfusion e, rfl⟩
theorem fp_11_10 (o : String) : fP 11 10 false o .int := ⟨RX11, TX11, 11, tyX11, rfl, tyX11_ok, nmX11, rfl, fun e => Bool.noConfusion e, rfl⟩
theorem fl_X11_304_1 : fL RX11 304 1 3 := ⟨RX1, TX1, 6, "WheelAndWire$Board", rfl, rfl, by decide, by decide, m_225, Or.inl rfl, iX1⟩
theorem vw_X11_305 : vW RX11 305 1 yX1_become cX1_become 3 none 1 := ⟨⟨_, rfl, by decide, rfl⟩, m_981, m_982, m_983, m_43, m_984, ⟨by decide +kernel, by decide +kernel, by decide +kernel⟩⟩
theorem vw_X11_309 : vW RX11 309 1 yX1_standing cX1_standing 3 (some .int) 0 := ⟨⟨_, rfl, by decide, rfl⟩, m_985, m_986, m_987, m_43, m_988, ⟨by decide +kernel, by decide +kernel, by decide +kernel⟩⟩
theorem iX12 : ∀ w ∈ u_ws RX12 TX12 47, w ∈ BIG := bms [1050, 1052, 1054, 1056, 1058, 1060, 1062, 1064, 1066, 1068, 1070, 1072, 1074, 1076, 1078, 1080, 1082, 1084, 1086, 1088, 1090, 1092, 1094, 1096, 1098, 1100, 1102, 1104, 1106, 1108, 1110, 1112, 1114, 1116, 1118, 1120, 1122, 1124, 1126, 1128, 1130, 1132, 1134, 1136, 1138, 1140, 1142] (by decide +kernel) (by decide +kernel)
theorem fl_X12_1_8 : fL RX12 1 8 0 := ⟨RX12, TX12, 47, "WheelAndWireModel", rfl, rfl, by decide, by decide, m_1003, Or.inl rfl, iX12⟩
theorem fp_8_0 (o : String) : fP 8 0 false o .int := ⟨RX12, TX12, 47, tyX12, rfl, tyX12_ok, nmX12, rfl, fun e => Bool.noConfusion e, rfl⟩
theorem sw_X12_113 : sW RX12 113 yX12_in cX12_in 6 (some .boolean) 3 := ⟨rfl, m_1151, m_1152, m_52, m_1153, ⟨by decide +kernel, by decide +kernel, by decide +kernel⟩⟩
theorem fl_X12_117_8 : fL RX12 117 8 2 := ⟨RX12, TX12, 47, "WheelAndWireModel", rfl, rfl, by decide, by decide, m_1005, Or.inl rfl, iX12⟩
theorem fl_X12_13_8 : fL RX12 13 8 1 := ⟨RX12, TX12, 47, "WheelAndWireModel", rfl, rfl, by decide, by decide, m_1004, Or.inl rfl, iX12⟩
theorem fp_8_2 (o : String) : fP 8 2 false o .int := ⟨RX12, TX12, 47, tyX12, rfl, tyX12_ok, nmX12, rfl, fun e => Bool.noConfusion e, rfl⟩
theorem fl_X12_120_8 : fL RX12 120 8 7 := ⟨RX12, TX12, 47, "WheelAndWireModel", rfl, rfl, by decide, by decide, m_1010, Or.inl rfl, iX12⟩
theorem fp_8_7 (o : String) : fP 8 7 false o .int := ⟨RX12, TX12, 47, tyX12, rfl, tyX12_ok, nmX12, rfl, fun e => Bool.noConfusion e, rfl⟩
theorem fl_X12_123_8 : fL RX12 123 8 8 := ⟨RX12, TX12, 47, "WheelAndWireModel", rfl, rfl, by decide, by decide, m_1011, Or.inl rfl, iX12⟩
theorem fp_8_8 (o : String) : fP 8 8 false o .int := ⟨RX12, TX12, 47, tyX12, rfl, tyX12_ok, nmX12, rfl, fun e => Bool.noConfusion e, rfl⟩
theorem sw_X12_126 : sW RX12 126 yX12_kind cX12_kind 1 (some .int) 1 := ⟨rfl, m_1166, m_1167, m_52, m_1168, ⟨by decide +kernel, by decide +kernel, by decide +kernel⟩⟩
theorem fl_X12_26_8 : fL RX12 26 8 6 := ⟨RX12, TX12, 47, "WheelAndWireModel", rfl, rfl, by decide, by decide, m_1009, Or.inl rfl, iX12⟩
theorem vw_X12_130 : vW RX12 130 8 yX12_readForm cX12_readForm 5 (some .int) 0 := ⟨⟨_, rfl, by decide, rfl⟩, m_1162, m_1164, m_0, m_52, m_1165, ⟨by decide +kernel, by decide +kernel, by decide +kernel⟩⟩
theorem fl_X12_29_8 : fL RX12 29 8 9 := ⟨RX12, TX12, 47, "WheelAndWireModel", rfl, rfl, by decide, by decide, m_1012, Or.inl rfl, iX12⟩
theorem fp_8_9 (o : String) : fP 8 9 false o .int := ⟨RX12, TX12, 47, tyX12, rfl, tyX12_ok, nmX12, rfl, fun e => Bool.noConfusion e, rfl⟩
theorem fl_X12_32_8 : fL RX12 32 8 10 := ⟨RX12, TX12, 47, "WheelAndWireModel", rfl, rfl, by decide, by decide, m_1013, Or.inl rfl, iX12⟩
theorem fl_X12_35_8 : fL RX12 35 8 11 := ⟨RX12, TX12, 47, "WheelAndWireModel", rfl, rfl, by decide, by decide, m_1014, Or.inl rfl, iX12⟩
theorem fl_X12_38_8 : fL RX12 38 8 12 := ⟨RX12, TX12, 47, "WheelAndWireModel", rfl, rfl, by decide, by decide, m_1015, Or.inl rfl, iX12⟩
theorem fl_X12_20_8 : fL RX12 20 8 4 := ⟨RX12, TX12, 47, "WheelAndWireModel", rfl, rfl, by decide, by decide, m_1007, Or.inl rfl, iX12⟩
theorem fl_X12_41_8 : fL RX12 41 8 13 := ⟨RX12, TX12, 47, "WheelAndWireModel", rfl, rfl, by decide, by decide, m_1016, Or.inl rfl, iX12⟩
theorem fl_X12_23_8 : fL RX12 23 8 5 := ⟨RX12, TX12, 47, "WheelAndWireModel", rfl, rfl, by decide, by decide, m_1008, Or.inl rfl, iX12⟩
theorem fl_X12_44_8 : fL RX12 44 8 14 := ⟨RX12, TX12, 47, "WheelAndWireModel", rfl, rfl, by decide, by decide, m_1017, Or.inl rfl, iX12⟩
theorem fl_X12_47_8 : fL RX12 47 8 15 := ⟨RX12, TX12, 47, "WheelAndWireModel", rfl, rfl, by decide, by decide, m_1018, Or.inl rfl, iX12⟩
theorem fl_X12_50_8 : fL RX12 50 8 16 := ⟨RX12, TX12, 47, "WheelAndWireModel", rfl, rfl, by decide, by decide, m_1019, Or.inl rfl, iX12⟩
theorem fl_X12_53_8 : fL RX12 53 8 17 := ⟨RX12, TX12, 47, "WheelAndWireModel", rfl, rfl, by decide, by decide, m_1020, Or.inl rfl, iX12⟩
theorem fl_X12_134_8 : fL RX12 134 8 18 := ⟨RX12, TX12, 47, "WheelAndWireModel", rfl, rfl, by decide, by decide, m_1021, Or.inl rfl, iX12⟩
theorem fp_8_18 (o : String) : fP 8 18 false o .int := ⟨RX12, TX12, 47, tyX12, rfl, tyX12_ok, nmX12, rfl, fun e => Bool.noConfusion e, rfl⟩
theorem fl_X12_62_8 : fL RX12 62 8 21 := ⟨RX12, TX12, 47, "WheelAndWireModel", rfl, rfl, by decide, by decide, m_1024, Or.inl rfl, iX12⟩
theorem fl_X12_137_8 : fL RX12 137 8 35 := ⟨RX12, TX12, 47, "WheelAndWireModel", rfl, rfl, by decide, by decide, m_1038, Or.inl rfl, iX12⟩
theorem fp_8_35 (o : String) : fP 8 35 false o .int := ⟨RX12, TX12, 47, tyX12, rfl, tyX12_ok, nmX12, rfl, fun e => Bool.noConfusion e, rfl⟩
theorem fp_8_4 (o : String) : fP 8 4 false o .int := ⟨RX12, TX12, 47, tyX12, rfl, tyX12_ok, nmX12, rfl, fun e => Bool.noConfusion e, rfl⟩
theorem fp_8_5 (o : String) : fP 8 5 false o .int := ⟨RX12, TX12, 47, tyX12, rfl, tyX12_ok, nmX12, rfl, fun e => Bool.noConfusion e, rfl⟩
theorem fl_X12_17_8 : fL RX12 17 8 3 := ⟨RX12, TX12, 47, "WheelAndWireModel", rfl, rfl, by decide, by decide, m_1006, Or.inl rfl, iX12⟩
theorem vw_X12_140 : vW RX12 140 8 yX12_begin cX12_begin 2 none 0 := ⟨⟨_, rfl, by decide, rfl⟩, m_1173, m_1175, m_1, m_52, m_1176, ⟨by decide +kernel, by decide +kernel, by decide +kernel⟩⟩
theorem vw_X12_143 : vW RX12 143 8 yX12_noPiece cX12_noPiece 2 (some .boolean) 1 := ⟨⟨_, rfl, by decide, rfl⟩, m_1189, m_1191, m_3, m_52, m_1192, ⟨by decide +kernel, by decide +kernel, by decide +kernel⟩⟩
theorem vw_X12_151 : vW RX12 151 8 yX12_weightOf cX12_weightOf 9 (some .int) 4 := ⟨⟨_, rfl, by decide, rfl⟩, m_1201, m_1203, m_6, m_52, m_1204, ⟨by decide +kernel, by decide +kernel, by decide +kernel⟩⟩
theorem vw_X12_165 : vW RX12 165 8 yX12_offAhead cX12_offAhead 6 (some .int) 3 := ⟨⟨_, rfl, by decide, rfl⟩, m_1197, m_1199, m_5, m_52, m_1200, ⟨by decide +kernel, by decide +kernel, by decide +kernel⟩⟩
theorem vw_X12_161 : vW RX12 161 8 yX12_driedAhead cX12_driedAhead 5 (some .int) 4 := ⟨⟨_, rfl, by decide, rfl⟩, m_1205, m_1207, m_7, m_52, m_1208, ⟨by decide +kernel, by decide +kernel, by decide +kernel⟩⟩
theorem vw_X12_179 : vW RX12 179 8 yX12_noStand cX12_noStand 2 (some .boolean) 1 := ⟨⟨_, rfl, by decide, rfl⟩, m_1185, m_1187, m_2, m_52, m_1188, ⟨by decide +kernel, by decide +kernel, by decide +kernel⟩⟩
theorem vw_X12_182 : vW RX12 182 8 yX12_makeCut cX12_makeCut 9 (some .int) 3 := ⟨⟨_, rfl, by decide, rfl⟩, m_1193, m_1195, m_4, m_52, m_1196, ⟨by decide +kernel, by decide +kernel, by decide +kernel⟩⟩
theorem vw_X12_147 : vW RX12 147 8 yX12_face cX12_face 4 (some .int) 2 := ⟨⟨_, rfl, by decide, rfl⟩, m_1221, m_1223, m_10, m_52, m_1224, ⟨by decide +kernel, by decide +kernel, by decide +kernel⟩⟩
theorem vw_X12_172 : vW RX12 172 8 yX12_countOf cX12_countOf 9 (some .int) 5 := ⟨⟨_, rfl, by decide, rfl⟩, m_1213, m_1215, m_8, m_52, m_1216, ⟨by decide +kernel, by decide +kernel, by decide +kernel⟩⟩
theorem vw_X12_185 : vW RX12 185 8 yX12_edges cX12_edges 4 (some .int) 1 := ⟨⟨_, rfl, by decide, rfl⟩, m_1217, m_1219, m_9, m_52, m_1220, ⟨by decide +kernel, by decide +kernel, by decide +kernel⟩⟩
theorem vw_X12_155 : vW RX12 155 8 yX12_allDried cX12_allDried 4 (some .int) 1 := ⟨⟨_, rfl, by decide, rfl⟩, m_1225, m_1227, m_11, m_52, m_1228, ⟨by decide +kernel, by decide +kernel, by decide +kernel⟩⟩
theorem vw_X12_188 : vW RX12 188 8 yX12_isEnd cX12_isEnd 4 (some .boolean) 1 := ⟨⟨_, rfl, by decide, rfl⟩, m_1229, m_1231, m_12, m_52, m_1232, ⟨by decide +kernel, by decide +kernel, by decide +kernel⟩⟩
theorem sw_X12_158 : sW RX12 158 yX12_more cX12_more 1 (some .int) 1 := ⟨rfl, m_1241, m_1242, m_52, m_1243, ⟨by decide +kernel, by decide +kernel, by decide +kernel⟩⟩
theorem vw_X12_191 : vW RX12 191 8 yX12_weighsOf cX12_weighsOf 2 (some .int) 1 := ⟨⟨_, rfl, by decide, rfl⟩, m_1237, m_1239, m_13, m_52, m_1240, ⟨by decide +kernel, by decide +kernel, by decide +kernel⟩⟩
theorem sw_X12_204 : sW RX12 204 yX12_noAsk cX12_noAsk 3 (some .boolean) 3 := ⟨rfl, m_1266, m_1267, m_52, m_1268, ⟨by decide +kernel, by decide +kernel, by decide +kernel⟩⟩
theorem vw_X12_208 : vW RX12 208 8 yX12_isServed cX12_isServed 5 (some .boolean) 4 := ⟨⟨_, rfl, by decide, rfl⟩, m_1272, m_1274, m_14, m_52, m_1275, ⟨by decide +kernel, by decide +kernel, by decide +kernel⟩⟩
theorem vw_X12_212 : vW RX12 212 8 yX12_standsFor cX12_standsFor 7 (some .int) 3 := ⟨⟨_, rfl, by decide, rfl⟩, m_1280, m_1282, m_15, m_52, m_1283, ⟨by decide +kernel, by decide +kernel, by decide +kernel⟩⟩
theorem fl_X12_169_8 : fL RX12 169 8 22 := ⟨RX12, TX12, 47, "WheelAndWireModel", rfl, rfl, by decide, by decide, m_1025, Or.inl rfl, iX12⟩
theorem fp_8_22 (o : String) : fP 8 22 false o .int := ⟨RX12, TX12, 47, tyX12, rfl, tyX12_ok, nmX12, rfl, fun e => Bool.noConfusion e, rfl⟩
theorem fl_X12_176_8 : fL RX12 176 8 23 := ⟨RX12, TX12, 47, "WheelAndWireModel", rfl, rfl, by decide, by decide, m_1026, Or.inl rfl, iX12⟩
theorem fp_8_23 (o : String) : fP 8 23 false o .int := ⟨RX12, TX12, 47, tyX12, rfl, tyX12_ok, nmX12, rfl, fun e => Bool.noConfusion e, rfl⟩
theorem vw_X12_216 : vW RX12 216 8 yX12_layPart cX12_layPart 13 none 4 := ⟨⟨_, rfl, by decide, rfl⟩, m_1297, m_1299, m_18, m_52, m_1300, ⟨by decide +kernel, by decide +kernel, by decide +kernel⟩⟩
theorem fl_X12_220_8 : fL RX12 220 8 24 := ⟨RX12, TX12, 47, "WheelAndWireModel", rfl, rfl, by decide, by decide, m_1027, Or.inl rfl, iX12⟩
theorem fp_8_24 (o : String) : fP 8 24 false o .int := ⟨RX12, TX12, 47, tyX12, rfl, tyX12_ok, nmX12, rfl, fun e => Bool.noConfusion e, rfl⟩
theorem fl_X12_224_8 : fL RX12 224 8 25 := ⟨RX12, TX12, 47, "WheelAndWireModel", rfl, rfl, by decide, by decide, m_1028, Or.inl rfl, iX12⟩
theorem fp_8_25 (o : String) : fP 8 25 false o .int := ⟨RX12, TX12, 47, tyX12, rfl, tyX12_ok, nmX12, rfl, fun e => Bool.noConfusion e, rfl⟩
theorem vw_X12_227 : vW RX12 227 8 yX12_isPart cX12_isPart 8 (some .boolean) 7 := ⟨⟨_, rfl, by decide, rfl⟩, m_1293, m_1295, m_17, m_52, m_1296, ⟨by decide +kernel, by decide +kernel, by decide +kernel⟩⟩
theorem vw_X12_231 : vW RX12 231 8 yX12_findCut cX12_findCut 10 none 3 := ⟨⟨_, rfl, by decide, rfl⟩, m_1288, m_1290, m_16, m_52, m_1291, ⟨by decide +kernel, by decide +kernel, by decide +kernel⟩⟩
theorem vw_X12_235 : vW RX12 235 8 yX12_make cX12_make 5 (some .int) 1 := ⟨⟨_, rfl, by decide, rfl⟩, m_1305, m_1307, m_19, m_52, m_1308, ⟨by decide +kernel, by decide +kernel, by decide +kernel⟩⟩
theorem fl_X12_56_8 : fL RX12 56 8 19 := ⟨RX12, TX12, 47, "WheelAndWireModel", rfl, rfl, by decide, by decide, m_1022, Or.inl rfl, iX12⟩
theorem fl_X12_238_8 : fL RX12 238 8 45 := ⟨RX12, TX12, 47, "WheelAndWireModel", rfl, rfl, by decide, by decide, m_1048, Or.inl rfl, iX12⟩
theorem fp_8_45 (o : String) : fP 8 45 false o .int := ⟨RX12, TX12, 47, tyX12, rfl, tyX12_ok, nmX12, rfl, fun e => Bool.noConfusion e, rfl⟩
theorem fl_X12_241_8 : fL RX12 241 8 46 := ⟨RX12, TX12, 47, "WheelAndWireModel", rfl, rfl, by decide, by decide, m_1049, Or.inl rfl, iX12⟩
theorem fp_8_46 (o : String) : fP 8 46 false o .int := ⟨RX12, TX12, 47, tyX12, rfl, tyX12_ok, nmX12, rfl, fun e => Bool.noConfusion e, rfl⟩
theorem vw_X12_244 : vW RX12 244 8 yX12_putAside cX12_putAside 4 none 0 := ⟨⟨_, rfl, by decide, rfl⟩, m_1317, m_1319, m_21, m_52, m_1320, ⟨by decide +kernel, by decide +kernel, by decide +kernel⟩⟩
theorem vw_X12_247 : vW RX12 247 8 yX12_second cX12_second 4 (some .int) 3 := ⟨⟨_, rfl, by decide, rfl⟩, m_1321, m_1323, m_22, m_52, m_1324, ⟨by decide +kernel, by decide +kernel, by decide +kernel⟩⟩
theorem vw_X12_250 : vW RX12 250 8 yX12_keepTwo cX12_keepTwo 3 none 2 := ⟨⟨_, rfl, by decide, rfl⟩, m_1325, m_1327, m_23, m_52, m_1328, ⟨by decide +kernel, by decide +kernel, by decide +kernel⟩⟩
theorem vw_X12_254 : vW RX12 254 8 yX12_takeBack cX12_takeBack 4 none 0 := ⟨⟨_, rfl, by decide, rfl⟩, m_1329, m_1331, m_24, m_52, m_1332, ⟨by decide +kernel, by decide +kernel, by decide +kernel⟩⟩
theorem vw_X12_258 : vW RX12 258 8 yX12_findTwo cX12_findTwo 12 none 5 := ⟨⟨_, rfl, by decide, rfl⟩, m_1313, m_1315, m_20, m_52, m_1316, ⟨by decide +kernel, by decide +kernel, by decide +kernel⟩⟩
theorem fl_X12_262_8 : fL RX12 262 8 26 := ⟨RX12, TX12, 47, "WheelAndWireModel", rfl, rfl, by decide, by decide, m_1029, Or.inl rfl, iX12⟩
theorem fl_X12_66_8 : fL RX12 66 8 27 := ⟨RX12, TX12, 47, "WheelAndWireModel", rfl, rfl, by decide, by decide, m_1030, Or.inl rfl, iX12⟩
theorem fl_X12_69_8 : fL RX12 69 8 28 := ⟨RX12, TX12, 47, "WheelAndWireModel", rfl, rfl, by decide, by decide, m_1031, Or.inl rfl, iX12⟩
theorem fl_X12_72_8 : fL RX12 72 8 29 := ⟨RX12, TX12, 47, "WheelAndWireModel", rfl, rfl, by decide, by decide, m_1032, Or.inl rfl, iX12⟩
theorem fp_8_26 (o : String) : fP 8 26 false o .int := ⟨RX12, TX12, 47, tyX12, rfl, tyX12_ok, nmX12, rfl, fun e => Bool.noConfusion e, rfl⟩
theorem fl_X12_75_8 : fL RX12 75 8 30 := ⟨RX12, TX12, 47, "WheelAndWireModel", rfl, rfl, by decide, by decide, m_1033, Or.inl rfl, iX12⟩
theorem sw_X12_265 : sW RX12 265 yX12_block cX12_block 4 (some .int) 4 := ⟨rfl, m_1362, m_1363, m_52, m_1364, ⟨by decide +kernel, by decide +kernel, by decide +kernel⟩⟩
theorem fl_X12_78_8 : fL RX12 78 8 31 := ⟨RX12, TX12, 47, "WheelAndWireModel", rfl, rfl, by decide, by decide, m_1034, Or.inl rfl, iX12⟩
theorem fl_X12_268_8 : fL RX12 268 8 34 := ⟨RX12, TX12, 47, "WheelAndWireModel", rfl, rfl, by decide, by decide, m_1037, Or.inl rfl, iX12⟩
theorem fp_8_34 (o : String) : fP 8 34 false o .int := ⟨RX12, TX12, 47, tyX12, rfl, tyX12_ok, nmX12, rfl, fun e => Bool.noConfusion e, rfl⟩
theorem fl_X12_81_8 : fL RX12 81 8 32 := ⟨RX12, TX12, 47, "WheelAndWireModel", rfl, rfl, by decide, by decide, m_1035, Or.inl rfl, iX12⟩
theorem vw_X12_271 : vW RX12 271 8 yX12_layBlocks cX12_layBlocks 5 none 0 := ⟨⟨_, rfl, by decide, rfl⟩, m_1358, m_1360, m_27, m_52, m_1361, ⟨by decide +kernel, by decide +kernel, by decide +kernel⟩⟩
theorem vw_X12_278 : vW RX12 278 8 yX12_bestWire cX12_bestWire 13 (some .int) 5 := ⟨⟨_, rfl, by decide, rfl⟩, m_1369, m_1371, m_29, m_52, m_1372, ⟨by decide +kernel, by decide +kernel, by decide +kernel⟩⟩
theorem vw_X12_274 : vW RX12 274 8 yX12_isAsk cX12_isAsk 3 (some .boolean) 2 := ⟨⟨_, rfl, by decide, rfl⟩, m_1365, m_1367, m_28, m_52, m_1368, ⟨by decide +kernel, by decide +kernel, by decide +kernel⟩⟩
theorem vw_X12_281 : vW RX12 281 8 yX12_layWires cX12_layWires 8 none 0 := ⟨⟨_, rfl, by decide, rfl⟩, m_1354, m_1356, m_26, m_52, m_1357, ⟨by decide +kernel, by decide +kernel, by decide +kernel⟩⟩
theorem vw_X12_284 : vW RX12 284 8 yX12_wholeWire cX12_wholeWire 1 (some .int) 0 := ⟨⟨_, rfl, by decide, rfl⟩, m_1350, m_1352, m_25, m_52, m_1353, ⟨by decide +kernel, by decide +kernel, by decide +kernel⟩⟩
theorem fl_X12_87_8 : fL RX12 87 8 36 := ⟨RX12, TX12, 47, "WheelAndWireModel", rfl, rfl, by decide, by decide, m_1039, Or.inl rfl, iX12⟩
theorem sw_X12_298 : sW RX12 298 yX12_meets cX12_meets 3 (some .boolean) 2 := ⟨rfl, m_1389, m_1390, m_52, m_1391, ⟨by decide +kernel, by decide +kernel, by decide +kernel⟩⟩
theorem fl_X12_84_8 : fL RX12 84 8 33 := ⟨RX12, TX12, 47, "WheelAndWireModel", rfl, rfl, by decide, by decide, m_1036, Or.inl rfl, iX12⟩
theorem vw_X12_287 : vW RX12 287 8 yX12_goesThrough cX12_goesThrough 11 (some .boolean) 6 := ⟨⟨_, rfl, by decide, rfl⟩, m_1385, m_1387, m_31, m_52, m_1388, ⟨by decide +kernel, by decide +kernel, by decide +kernel⟩⟩
theorem vw_X12_291 : vW RX12 291 8 yX12_bestOf cX12_bestOf 14 (some .int) 6 := ⟨⟨_, rfl, by decide, rfl⟩, m_1381, m_1383, m_30, m_52, m_1384, ⟨by decide +kernel, by decide +kernel, by decide +kernel⟩⟩
theorem vw_X12_295 : vW RX12 295 8 yX12_noBlock cX12_noBlock 6 (some .boolean) 1 := ⟨⟨_, rfl, by decide, rfl⟩, m_1396, m_1398, m_32, m_52, m_1399, ⟨by decide +kernel, by decide +kernel, by decide +kernel⟩⟩
theorem fl_X12_90_8 : fL RX12 90 8 37 := ⟨RX12, TX12, 47, "WheelAndWireModel", rfl, rfl, by decide, by decide, m_1040, Or.inl rfl, iX12⟩
theorem fl_X12_93_8 : fL RX12 93 8 38 := ⟨RX12, TX12, 47, "WheelAndWireModel", rfl, rfl, by decide, by decide, m_1041, Or.inl rfl, iX12⟩
theorem fp_8_37 (o : String) : fP 8 37 false o .int := ⟨RX12, TX12, 47, tyX12, rfl, tyX12_ok, nmX12, rfl, fun e => Bool.noConfusion e, rfl⟩
theorem fp_8_38 (o : String) : fP 8 38 false o .int := ⟨RX12, TX12, 47, tyX12, rfl, tyX12_ok, nmX12, rfl, fun e => Bool.noConfusion e, rfl⟩
theorem sw_X12_303 : sW RX12 303 yX12_lesser cX12_lesser 2 (some .int) 2 := ⟨rfl, m_1431, m_1432, m_52, m_1433, ⟨by decide +kernel, by decide +kernel, by decide +kernel⟩⟩
theorem vw_X12_306 : vW RX12 306 8 yX12_isRipe cX12_isRipe 6 (some .boolean) 3 := ⟨⟨_, rfl, by decide, rfl⟩, m_1427, m_1429, m_35, m_52, m_1430, ⟨by decide +kernel, by decide +kernel, by decide +kernel⟩⟩
theorem vw_X12_313 : vW RX12 313 8 yX12_paste cX12_paste 2 (some .int) 1 := ⟨⟨_, rfl, by decide, rfl⟩, m_1419, m_1421, m_33, m_52, m_1422, ⟨by decide +kernel, by decide +kernel, by decide +kernel⟩⟩
theorem vw_X12_316 : vW RX12 316 8 yX12_ripeIn cX12_ripeIn 6 (some .int) 2 := ⟨⟨_, rfl, by decide, rfl⟩, m_1423, m_1425, m_34, m_52, m_1426, ⟨by decide +kernel, by decide +kernel, by decide +kernel⟩⟩
theorem sw_X12_319 : sW RX12 319 yX12_common cX12_common 10 (some .long) 2 := ⟨rfl, m_1434, m_1435, m_52, m_1436, ⟨by decide +kernel, by decide +kernel, by decide +kernel⟩⟩
theorem fl_X12_323_8 : fL RX12 323 8 39 := ⟨RX12, TX12, 47, "WheelAndWireModel", rfl, rfl, by decide, by decide, m_1042, Or.inl rfl, iX12⟩
theorem fl_X12_96_8 : fL RX12 96 8 40 := ⟨RX12, TX12, 47, "WheelAndWireModel", rfl, rfl, by decide, by decide, m_1043, Or.inl rfl, iX12⟩
theorem fp_8_39 (o : String) : fP 8 39 false o .int := ⟨RX12, TX12, 47, tyX12, rfl, tyX12_ok, nmX12, rfl, fun e => Bool.noConfusion e, rfl⟩
theorem vw_X12_326 : vW RX12 326 8 yX12_earns cX12_earns 4 (some .int) 1 := ⟨⟨_, rfl, by decide, rfl⟩, m_1449, m_1451, m_36, m_52, m_1452, ⟨by decide +kernel, by decide +kernel, by decide +kernel⟩⟩
theorem fl_X12_99_8 : fL RX12 99 8 41 := ⟨RX12, TX12, 47, "WheelAndWireModel", rfl, rfl, by decide, by decide, m_1044, Or.inl rfl, iX12⟩
theorem fl_X12_102_8 : fL RX12 102 8 42 := ⟨RX12, TX12, 47, "WheelAndWireModel", rfl, rfl, by decide, by decide, m_1045, Or.inl rfl, iX12⟩
theorem vw_X12_331 : vW RX12 331 8 yX12_gain cX12_gain 2 (some .int) 1 := ⟨⟨_, rfl, by decide, rfl⟩, m_1466, m_1468, m_37, m_52, m_1469, ⟨by decide +kernel, by decide +kernel, by decide +kernel⟩⟩
theorem fl_X12_105_8 : fL RX12 105 8 43 := ⟨RX12, TX12, 47, "WheelAndWireModel", rfl, rfl, by decide, by decide, m_1046, Or.inl rfl, iX12⟩
theorem fl_X12_108_8 : fL RX12 108 8 44 := ⟨RX12, TX12, 47, "WheelAndWireModel", rfl, rfl, by decide, by decide, m_1047, Or.inl rfl, iX12⟩
theorem fp_8_43 (o : String) : fP 8 43 false o .int := ⟨RX12, TX12, 47, tyX12, rfl, tyX12_ok, nmX12, rfl, fun e => Bool.noConfusion e, rfl⟩
theorem fp_8_44 (o : String) : fP 8 44 false o .int := ⟨RX12, TX12, 47, tyX12, rfl, tyX12_ok, nmX12, rfl, fun e => Bool.noConfusion e, rfl⟩
theorem fl_X12_59_8 : fL RX12 59 8 20 := ⟨RX12, TX12, 47, "WheelAndWireModel", rfl, rfl, by decide, by decide, m_1023, Or.inl rfl, iX12⟩
theorem vw_X12_336 : vW RX12 336 8 yX12_standing cX12_standing 3 (some .int) 0 := ⟨⟨_, rfl, by decide, rfl⟩, m_1487, m_1489, m_38, m_52, m_1490, ⟨by decide +kernel, by decide +kernel, by decide +kernel⟩⟩
