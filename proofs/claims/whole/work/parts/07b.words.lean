theorem m_71 : Cond.fieldLink RX10 15 "WheelAndWire$Text" "length" "I" ∈ BIG := bm (i := 71) (by decide +kernel) rfl
theorem m_68 : Cond.fieldLink RX10 9 "WheelAndWire$Text" "bytes" "[I" ∈ BIG := bm (i := 68) (by decide +kernel) rfl
theorem m_389 : Cond.fieldLink RX11 12 "WheelAndWire" "text" "LWheelAndWire$Text;" ∈ BIG := bm (i := 389) (by decide +kernel) rfl
theorem m_72 : Cond.fieldLink RX11 80 "WheelAndWire$Text" "length" "I" ∈ BIG := bm (i := 72) (by decide +kernel) rfl
theorem m_427 : Cond.methodLink RX11 83 yX10_append ∈ BIG := bm (i := 427) (by decide +kernel) rfl
theorem m_428 : Cond.instanceMethod yX10_append ∈ BIG := bm (i := 428) (by decide +kernel) rfl
theorem m_429 : Cond.selects RX10 yX10_append yX10_append ∈ BIG := bm (i := 429) (by decide +kernel) rfl
theorem m_41 : Cond.initialized RX10 ∈ BIG := bm (i := 41) (by decide +kernel) rfl
theorem m_430 : Cond.code yX10_append cX10_append 5 none ∈ BIG := bm (i := 430) (by decide +kernel) rfl
theorem m_444 : Cond.static yX11_kindOf ∈ BIG := bm (i := 444) (by decide +kernel) rfl
theorem m_40 : Cond.initialized RX11 ∈ BIG := bm (i := 40) (by decide +kernel) rfl
theorem m_445 : Cond.code yX11_kindOf cX11_kindOf 1 (some .int) ∈ BIG := bm (i := 445) (by decide +kernel) rfl
theorem m_439 : Cond.methodLink RX11 87 yX10_firstFault ∈ BIG := bm (i := 439) (by decide +kernel) rfl
theorem m_440 : Cond.instanceMethod yX10_firstFault ∈ BIG := bm (i := 440) (by decide +kernel) rfl
theorem m_441 : Cond.selects RX10 yX10_firstFault yX10_firstFault ∈ BIG := bm (i := 441) (by decide +kernel) rfl
theorem m_442 : Cond.code yX10_firstFault cX10_firstFault 5 (some .int) ∈ BIG := bm (i := 442) (by decide +kernel) rfl
theorem m_98 : Cond.fieldLink RX4 9 "WheelAndWire$Form" "kinds" "[I" ∈ BIG := bm (i := 98) (by decide +kernel) rfl
theorem m_101 : Cond.fieldLink RX4 21 "WheelAndWire$Form" "rows" "I" ∈ BIG := bm (i := 101) (by decide +kernel) rfl
theorem m_107 : Cond.fieldLink RX4 25 "WheelAndWire$Form" "columns" "I" ∈ BIG := bm (i := 107) (by decide +kernel) rfl
theorem m_89 : Cond.methodLink RX4 49 yX4_kindAt ∈ BIG := bm (i := 89) (by decide +kernel) rfl
theorem m_90 : Cond.instanceMethod yX4_kindAt ∈ BIG := bm (i := 90) (by decide +kernel) rfl
theorem m_91 : Cond.selects RX4 yX4_kindAt yX4_kindAt ∈ BIG := bm (i := 91) (by decide +kernel) rfl
theorem m_42 : Cond.initialized RX4 ∈ BIG := bm (i := 42) (by decide +kernel) rfl
theorem m_92 : Cond.code yX4_kindAt cX4_kindAt 4 (some .int) ∈ BIG := bm (i := 92) (by decide +kernel) rfl
theorem m_99 : Cond.fieldLink RX4 15 "WheelAndWire$Form" "weightSums" "[I" ∈ BIG := bm (i := 99) (by decide +kernel) rfl
theorem m_95 : Cond.methodLink RX4 56 yX4_addPlace ∈ BIG := bm (i := 95) (by decide +kernel) rfl
theorem m_96 : Cond.static yX4_addPlace ∈ BIG := bm (i := 96) (by decide +kernel) rfl
theorem m_97 : Cond.code yX4_addPlace cX4_addPlace 5 none ∈ BIG := bm (i := 97) (by decide +kernel) rfl
theorem m_100 : Cond.fieldLink RX4 18 "WheelAndWire$Form" "rindSums" "[I" ∈ BIG := bm (i := 100) (by decide +kernel) rfl
theorem m_70 : Cond.fieldLink RX4 37 "WheelAndWire$Text" "length" "I" ∈ BIG := bm (i := 70) (by decide +kernel) rfl
theorem m_69 : Cond.fieldLink RX4 42 "WheelAndWire$Text" "bytes" "[I" ∈ BIG := bm (i := 69) (by decide +kernel) rfl
theorem m_85 : Cond.methodLink RX4 34 yX4_addUp ∈ BIG := bm (i := 85) (by decide +kernel) rfl
theorem m_86 : Cond.instanceMethod yX4_addUp ∈ BIG := bm (i := 86) (by decide +kernel) rfl
theorem m_87 : Cond.selects RX4 yX4_addUp yX4_addUp ∈ BIG := bm (i := 87) (by decide +kernel) rfl
theorem m_88 : Cond.code yX4_addUp cX4_addUp 4 none ∈ BIG := bm (i := 88) (by decide +kernel) rfl
theorem m_206 : Cond.methodLink RX4 60 yX4_sumIn ∈ BIG := bm (i := 206) (by decide +kernel) rfl
theorem m_207 : Cond.instanceMethod yX4_sumIn ∈ BIG := bm (i := 207) (by decide +kernel) rfl
theorem m_208 : Cond.selects RX4 yX4_sumIn yX4_sumIn ∈ BIG := bm (i := 208) (by decide +kernel) rfl
theorem m_209 : Cond.code yX4_sumIn cX4_sumIn 8 (some .int) ∈ BIG := bm (i := 209) (by decide +kernel) rfl
theorem m_163 : Cond.fieldLink RX7 53 "WheelAndWire$Piece" "driedAbove" "I" ∈ BIG := bm (i := 163) (by decide +kernel) rfl
theorem m_164 : Cond.fieldLink RX7 56 "WheelAndWire$Piece" "driedBelow" "I" ∈ BIG := bm (i := 164) (by decide +kernel) rfl
theorem m_165 : Cond.fieldLink RX7 59 "WheelAndWire$Piece" "driedLeft" "I" ∈ BIG := bm (i := 165) (by decide +kernel) rfl
theorem m_166 : Cond.fieldLink RX7 62 "WheelAndWire$Piece" "driedRight" "I" ∈ BIG := bm (i := 166) (by decide +kernel) rfl
theorem m_145 : Cond.fieldLink RX7 9 "WheelAndWire$Piece" "row" "I" ∈ BIG := bm (i := 145) (by decide +kernel) rfl
theorem m_146 : Cond.fieldLink RX7 15 "WheelAndWire$Piece" "column" "I" ∈ BIG := bm (i := 146) (by decide +kernel) rfl
theorem m_103 : Cond.fieldLink RX7 18 "WheelAndWire$Form" "rows" "I" ∈ BIG := bm (i := 103) (by decide +kernel) rfl
theorem m_147 : Cond.fieldLink RX7 23 "WheelAndWire$Piece" "rows" "I" ∈ BIG := bm (i := 147) (by decide +kernel) rfl
theorem m_109 : Cond.fieldLink RX7 24 "WheelAndWire$Form" "columns" "I" ∈ BIG := bm (i := 109) (by decide +kernel) rfl
theorem m_149 : Cond.fieldLink RX7 27 "WheelAndWire$Piece" "columns" "I" ∈ BIG := bm (i := 149) (by decide +kernel) rfl
theorem m_202 : Cond.methodLink RX7 28 yX4_weightIn ∈ BIG := bm (i := 202) (by decide +kernel) rfl
theorem m_203 : Cond.instanceMethod yX4_weightIn ∈ BIG := bm (i := 203) (by decide +kernel) rfl
theorem m_204 : Cond.selects RX4 yX4_weightIn yX4_weightIn ∈ BIG := bm (i := 204) (by decide +kernel) rfl
theorem m_205 : Cond.code yX4_weightIn cX4_weightIn 5 (some .int) ∈ BIG := bm (i := 205) (by decide +kernel) rfl
theorem m_151 : Cond.fieldLink RX7 32 "WheelAndWire$Piece" "placesWeight" "I" ∈ BIG := bm (i := 151) (by decide +kernel) rfl
theorem m_210 : Cond.methodLink RX7 35 yX4_rindIn ∈ BIG := bm (i := 210) (by decide +kernel) rfl
theorem m_211 : Cond.instanceMethod yX4_rindIn ∈ BIG := bm (i := 211) (by decide +kernel) rfl
theorem m_212 : Cond.selects RX4 yX4_rindIn yX4_rindIn ∈ BIG := bm (i := 212) (by decide +kernel) rfl
theorem m_213 : Cond.code yX4_rindIn cX4_rindIn 5 (some .int) ∈ BIG := bm (i := 213) (by decide +kernel) rfl
theorem m_152 : Cond.fieldLink RX7 38 "WheelAndWire$Piece" "rind" "I" ∈ BIG := bm (i := 152) (by decide +kernel) rfl
theorem m_155 : Cond.fieldLink RX7 41 "WheelAndWire$Piece" "state" "I" ∈ BIG := bm (i := 155) (by decide +kernel) rfl
theorem m_159 : Cond.fieldLink RX7 44 "WheelAndWire$Piece" "wrapping" "I" ∈ BIG := bm (i := 159) (by decide +kernel) rfl
theorem m_161 : Cond.fieldLink RX7 47 "WheelAndWire$Piece" "off" "I" ∈ BIG := bm (i := 161) (by decide +kernel) rfl
theorem m_214 : Cond.methodLink RX7 50 yX7_dryAnew ∈ BIG := bm (i := 214) (by decide +kernel) rfl
theorem m_215 : Cond.instanceMethod yX7_dryAnew ∈ BIG := bm (i := 215) (by decide +kernel) rfl
theorem m_216 : Cond.selects RX7 yX7_dryAnew yX7_dryAnew ∈ BIG := bm (i := 216) (by decide +kernel) rfl
theorem m_44 : Cond.initialized RX7 ∈ BIG := bm (i := 44) (by decide +kernel) rfl
theorem m_217 : Cond.code yX7_dryAnew cX7_dryAnew 1 none ∈ BIG := bm (i := 217) (by decide +kernel) rfl
theorem m_219 : Cond.fieldLink RX1 11 "WheelAndWire$Board" "pieces" "[LWheelAndWire$Piece;" ∈ BIG := bm (i := 219) (by decide +kernel) rfl
theorem m_218 : Cond.fieldLink RX1 22 "WheelAndWire$Board" "form" "LWheelAndWire$Form;" ∈ BIG := bm (i := 218) (by decide +kernel) rfl
theorem m_198 : Cond.methodLink RX1 29 yX7_becomeAll ∈ BIG := bm (i := 198) (by decide +kernel) rfl
theorem m_199 : Cond.instanceMethod yX7_becomeAll ∈ BIG := bm (i := 199) (by decide +kernel) rfl
theorem m_200 : Cond.selects RX7 yX7_becomeAll yX7_becomeAll ∈ BIG := bm (i := 200) (by decide +kernel) rfl
theorem m_201 : Cond.code yX7_becomeAll cX7_becomeAll 2 none ∈ BIG := bm (i := 201) (by decide +kernel) rfl
theorem m_224 : Cond.fieldLink RX1 33 "WheelAndWire$Board" "size" "I" ∈ BIG := bm (i := 224) (by decide +kernel) rfl
theorem m_226 : Cond.fieldLink RX1 37 "WheelAndWire$Board" "halfHours" "I" ∈ BIG := bm (i := 226) (by decide +kernel) rfl
theorem m_349 : Cond.fieldLink RX5 24 "WheelAndWire$LeftPlan" "size" "I" ∈ BIG := bm (i := 349) (by decide +kernel) rfl
theorem m_351 : Cond.fieldLink RX5 28 "WheelAndWire$LeftPlan" "workedOut" "Z" ∈ BIG := bm (i := 351) (by decide +kernel) rfl
theorem m_390 : Cond.fieldLink RX11 19 "WheelAndWire" "cheese" "LWheelAndWire$Form;" ∈ BIG := bm (i := 390) (by decide +kernel) rfl
theorem m_450 : Cond.methodLink RX11 91 yX4_take ∈ BIG := bm (i := 450) (by decide +kernel) rfl
theorem m_451 : Cond.instanceMethod yX4_take ∈ BIG := bm (i := 451) (by decide +kernel) rfl
theorem m_452 : Cond.selects RX4 yX4_take yX4_take ∈ BIG := bm (i := 452) (by decide +kernel) rfl
theorem m_453 : Cond.code yX4_take cX4_take 5 none ∈ BIG := bm (i := 453) (by decide +kernel) rfl
theorem m_391 : Cond.fieldLink RX11 28 "WheelAndWire" "board" "LWheelAndWire$Board;" ∈ BIG := bm (i := 391) (by decide +kernel) rfl
theorem m_455 : Cond.methodLink RX11 95 yX1_startAnew ∈ BIG := bm (i := 455) (by decide +kernel) rfl
theorem m_195 : Cond.instanceMethod yX1_startAnew ∈ BIG := bm (i := 195) (by decide +kernel) rfl
theorem m_196 : Cond.selects RX1 yX1_startAnew yX1_startAnew ∈ BIG := bm (i := 196) (by decide +kernel) rfl
theorem m_43 : Cond.initialized RX1 ∈ BIG := bm (i := 43) (by decide +kernel) rfl
theorem m_197 : Cond.code yX1_startAnew cX1_startAnew 1 none ∈ BIG := bm (i := 197) (by decide +kernel) rfl
theorem m_392 : Cond.fieldLink RX11 32 "WheelAndWire" "slots" "[LWheelAndWire$Board;" ∈ BIG := bm (i := 392) (by decide +kernel) rfl
theorem m_228 : Cond.fieldLink RX11 98 "WheelAndWire$Board" "filled" "Z" ∈ BIG := bm (i := 228) (by decide +kernel) rfl
theorem m_396 : Cond.fieldLink RX11 62 "WheelAndWire" "leftPlan" "LWheelAndWire$LeftPlan;" ∈ BIG := bm (i := 396) (by decide +kernel) rfl
theorem m_456 : Cond.methodLink RX11 102 yX5_empty ∈ BIG := bm (i := 456) (by decide +kernel) rfl
theorem m_457 : Cond.instanceMethod yX5_empty ∈ BIG := bm (i := 457) (by decide +kernel) rfl
theorem m_458 : Cond.selects RX5 yX5_empty yX5_empty ∈ BIG := bm (i := 458) (by decide +kernel) rfl
theorem m_50 : Cond.initialized RX5 ∈ BIG := bm (i := 50) (by decide +kernel) rfl
theorem m_459 : Cond.code yX5_empty cX5_empty 1 none ∈ BIG := bm (i := 459) (by decide +kernel) rfl
theorem m_394 : Cond.fieldLink RX11 48 "WheelAndWire" "orderPlan" "LWheelAndWire$OrderPlan;" ∈ BIG := bm (i := 394) (by decide +kernel) rfl
theorem m_300 : Cond.fieldLink RX11 105 "WheelAndWire$OrderPlan" "workedOut" "Z" ∈ BIG := bm (i := 300) (by decide +kernel) rfl
theorem m_105 : Cond.fieldLink RX11 108 "WheelAndWire$Form" "rows" "I" ∈ BIG := bm (i := 105) (by decide +kernel) rfl
theorem m_111 : Cond.fieldLink RX11 111 "WheelAndWire$Form" "columns" "I" ∈ BIG := bm (i := 111) (by decide +kernel) rfl
theorem m_464 : Cond.methodLink RX11 114 yX4_holds ∈ BIG := bm (i := 464) (by decide +kernel) rfl
theorem m_465 : Cond.instanceMethod yX4_holds ∈ BIG := bm (i := 465) (by decide +kernel) rfl
theorem m_466 : Cond.selects RX4 yX4_holds yX4_holds ∈ BIG := bm (i := 466) (by decide +kernel) rfl
theorem m_467 : Cond.code yX4_holds cX4_holds 5 (some .boolean) ∈ BIG := bm (i := 467) (by decide +kernel) rfl
theorem m_468 : Cond.methodLink RX11 118 yX4_kindAt ∈ BIG := bm (i := 468) (by decide +kernel) rfl
theorem m_477 : Cond.methodLink RX1 44 yX1_knows ∈ BIG := bm (i := 477) (by decide +kernel) rfl
theorem m_478 : Cond.instanceMethod yX1_knows ∈ BIG := bm (i := 478) (by decide +kernel) rfl
theorem m_479 : Cond.selects RX1 yX1_knows yX1_knows ∈ BIG := bm (i := 479) (by decide +kernel) rfl
theorem m_480 : Cond.code yX1_knows cX1_knows 2 (some .boolean) ∈ BIG := bm (i := 480) (by decide +kernel) rfl
theorem m_157 : Cond.fieldLink RX1 48 "WheelAndWire$Piece" "state" "I" ∈ BIG := bm (i := 157) (by decide +kernel) rfl
theorem m_489 : Cond.methodLink RX7 99 yX7_become ∈ BIG := bm (i := 489) (by decide +kernel) rfl
theorem m_490 : Cond.instanceMethod yX7_become ∈ BIG := bm (i := 490) (by decide +kernel) rfl
theorem m_491 : Cond.selects RX7 yX7_become yX7_become ∈ BIG := bm (i := 491) (by decide +kernel) rfl
theorem m_492 : Cond.code yX7_become cX7_become 2 none ∈ BIG := bm (i := 492) (by decide +kernel) rfl
theorem m_493 : Cond.methodLink RX7 103 yX7_share ∈ BIG := bm (i := 493) (by decide +kernel) rfl
theorem m_494 : Cond.static yX7_share ∈ BIG := bm (i := 494) (by decide +kernel) rfl
theorem m_495 : Cond.code yX7_share cX7_share 3 (some .int) ∈ BIG := bm (i := 495) (by decide +kernel) rfl
theorem m_222 : Cond.fieldLink RX1 18 "WheelAndWire$Board" "spare" "LWheelAndWire$Piece;" ∈ BIG := bm (i := 222) (by decide +kernel) rfl
theorem m_485 : Cond.methodLink RX1 51 yX7_part ∈ BIG := bm (i := 485) (by decide +kernel) rfl
theorem m_486 : Cond.instanceMethod yX7_part ∈ BIG := bm (i := 486) (by decide +kernel) rfl
theorem m_487 : Cond.selects RX7 yX7_part yX7_part ∈ BIG := bm (i := 487) (by decide +kernel) rfl
theorem m_488 : Cond.code yX7_part cX7_part 6 none ∈ BIG := bm (i := 488) (by decide +kernel) rfl
theorem m_496 : Cond.methodLink RX1 40 yX7_become ∈ BIG := bm (i := 496) (by decide +kernel) rfl
theorem m_473 : Cond.methodLink RX11 122 yX1_stillHas ∈ BIG := bm (i := 473) (by decide +kernel) rfl
theorem m_474 : Cond.instanceMethod yX1_stillHas ∈ BIG := bm (i := 474) (by decide +kernel) rfl
theorem m_475 : Cond.selects RX1 yX1_stillHas yX1_stillHas ∈ BIG := bm (i := 475) (by decide +kernel) rfl
theorem m_476 : Cond.code yX1_stillHas cX1_stillHas 2 (some .boolean) ∈ BIG := bm (i := 476) (by decide +kernel) rfl
theorem m_221 : Cond.fieldLink RX11 126 "WheelAndWire$Board" "pieces" "[LWheelAndWire$Piece;" ∈ BIG := bm (i := 221) (by decide +kernel) rfl
theorem m_150 : Cond.fieldLink RX11 133 "WheelAndWire$Piece" "columns" "I" ∈ BIG := bm (i := 150) (by decide +kernel) rfl
theorem m_148 : Cond.fieldLink RX11 130 "WheelAndWire$Piece" "rows" "I" ∈ BIG := bm (i := 148) (by decide +kernel) rfl
theorem m_481 : Cond.methodLink RX11 134 yX1_divide ∈ BIG := bm (i := 481) (by decide +kernel) rfl
theorem m_482 : Cond.instanceMethod yX1_divide ∈ BIG := bm (i := 482) (by decide +kernel) rfl
theorem m_483 : Cond.selects RX1 yX1_divide yX1_divide ∈ BIG := bm (i := 483) (by decide +kernel) rfl
theorem m_484 : Cond.code yX1_divide cX1_divide 4 (some .int) ∈ BIG := bm (i := 484) (by decide +kernel) rfl
theorem m_510 : Cond.methodLink RX7 65 yX7_edgesAbove ∈ BIG := bm (i := 510) (by decide +kernel) rfl
theorem m_511 : Cond.instanceMethod yX7_edgesAbove ∈ BIG := bm (i := 511) (by decide +kernel) rfl
theorem m_512 : Cond.selects RX7 yX7_edgesAbove yX7_edgesAbove ∈ BIG := bm (i := 512) (by decide +kernel) rfl
theorem m_513 : Cond.code yX7_edgesAbove cX7_edgesAbove 1 (some .int) ∈ BIG := bm (i := 513) (by decide +kernel) rfl
theorem m_514 : Cond.methodLink RX7 69 yX7_edgesBelow ∈ BIG := bm (i := 514) (by decide +kernel) rfl
theorem m_515 : Cond.instanceMethod yX7_edgesBelow ∈ BIG := bm (i := 515) (by decide +kernel) rfl
theorem m_516 : Cond.selects RX7 yX7_edgesBelow yX7_edgesBelow ∈ BIG := bm (i := 516) (by decide +kernel) rfl
theorem m_517 : Cond.code yX7_edgesBelow cX7_edgesBelow 2 (some .int) ∈ BIG := bm (i := 517) (by decide +kernel) rfl
theorem m_518 : Cond.methodLink RX7 73 yX7_edgesLeft ∈ BIG := bm (i := 518) (by decide +kernel) rfl
theorem m_519 : Cond.instanceMethod yX7_edgesLeft ∈ BIG := bm (i := 519) (by decide +kernel) rfl
theorem m_520 : Cond.selects RX7 yX7_edgesLeft yX7_edgesLeft ∈ BIG := bm (i := 520) (by decide +kernel) rfl
theorem m_521 : Cond.code yX7_edgesLeft cX7_edgesLeft 1 (some .int) ∈ BIG := bm (i := 521) (by decide +kernel) rfl
theorem m_522 : Cond.methodLink RX7 76 yX7_edgesRight ∈ BIG := bm (i := 522) (by decide +kernel) rfl
theorem m_523 : Cond.instanceMethod yX7_edgesRight ∈ BIG := bm (i := 523) (by decide +kernel) rfl
theorem m_524 : Cond.selects RX7 yX7_edgesRight yX7_edgesRight ∈ BIG := bm (i := 524) (by decide +kernel) rfl
theorem m_525 : Cond.code yX7_edgesRight cX7_edgesRight 2 (some .int) ∈ BIG := bm (i := 525) (by decide +kernel) rfl
theorem m_501 : Cond.methodLink RX11 138 yX1_knows ∈ BIG := bm (i := 501) (by decide +kernel) rfl
theorem m_502 : Cond.methodLink RX11 141 yX7_block ∈ BIG := bm (i := 502) (by decide +kernel) rfl
theorem m_503 : Cond.instanceMethod yX7_block ∈ BIG := bm (i := 503) (by decide +kernel) rfl
theorem m_504 : Cond.selects RX7 yX7_block yX7_block ∈ BIG := bm (i := 504) (by decide +kernel) rfl
theorem m_505 : Cond.code yX7_block cX7_block 1 (some .int) ∈ BIG := bm (i := 505) (by decide +kernel) rfl
theorem m_158 : Cond.fieldLink RX11 144 "WheelAndWire$Piece" "state" "I" ∈ BIG := bm (i := 158) (by decide +kernel) rfl
theorem m_154 : Cond.fieldLink RX11 147 "WheelAndWire$Piece" "rind" "I" ∈ BIG := bm (i := 154) (by decide +kernel) rfl
theorem m_506 : Cond.methodLink RX11 150 yX7_bareEdges ∈ BIG := bm (i := 506) (by decide +kernel) rfl
theorem m_507 : Cond.instanceMethod yX7_bareEdges ∈ BIG := bm (i := 507) (by decide +kernel) rfl
theorem m_508 : Cond.selects RX7 yX7_bareEdges yX7_bareEdges ∈ BIG := bm (i := 508) (by decide +kernel) rfl
theorem m_509 : Cond.code yX7_bareEdges cX7_bareEdges 2 (some .int) ∈ BIG := bm (i := 509) (by decide +kernel) rfl
theorem m_526 : Cond.methodLink RX11 154 yX7_dried ∈ BIG := bm (i := 526) (by decide +kernel) rfl
theorem m_527 : Cond.instanceMethod yX7_dried ∈ BIG := bm (i := 527) (by decide +kernel) rfl
theorem m_528 : Cond.selects RX7 yX7_dried yX7_dried ∈ BIG := bm (i := 528) (by decide +kernel) rfl
theorem m_529 : Cond.code yX7_dried cX7_dried 1 (some .int) ∈ BIG := bm (i := 529) (by decide +kernel) rfl
theorem m_162 : Cond.fieldLink RX11 157 "WheelAndWire$Piece" "off" "I" ∈ BIG := bm (i := 162) (by decide +kernel) rfl
theorem m_160 : Cond.fieldLink RX11 160 "WheelAndWire$Piece" "wrapping" "I" ∈ BIG := bm (i := 160) (by decide +kernel) rfl
theorem m_530 : Cond.methodLink RX11 163 yX7_isEnd ∈ BIG := bm (i := 530) (by decide +kernel) rfl
theorem m_531 : Cond.instanceMethod yX7_isEnd ∈ BIG := bm (i := 531) (by decide +kernel) rfl
theorem m_532 : Cond.selects RX7 yX7_isEnd yX7_isEnd ∈ BIG := bm (i := 532) (by decide +kernel) rfl
theorem m_533 : Cond.code yX7_isEnd cX7_isEnd 3 (some .boolean) ∈ BIG := bm (i := 533) (by decide +kernel) rfl
theorem m_542 : Cond.methodLink RX7 79 yX7_dried ∈ BIG := bm (i := 542) (by decide +kernel) rfl
theorem m_543 : Cond.methodLink RX7 82 Lib.Math.max.name ∈ BIG := bm (i := 543) (by decide +kernel) rfl
theorem m_291 : Cond.static Lib.Math.max.name ∈ BIG := bm (i := 291) (by decide +kernel) rfl
theorem m_48 : Cond.initialized RJ9 ∈ BIG := bm (i := 48) (by decide +kernel) rfl
theorem m_292 : Cond.code Lib.Math.max.name Lib.Math.max.code 2 (some .int) ∈ BIG := bm (i := 292) (by decide +kernel) rfl
theorem m_538 : Cond.methodLink RX11 167 yX7_weight ∈ BIG := bm (i := 538) (by decide +kernel) rfl
theorem m_539 : Cond.instanceMethod yX7_weight ∈ BIG := bm (i := 539) (by decide +kernel) rfl
theorem m_540 : Cond.selects RX7 yX7_weight yX7_weight ∈ BIG := bm (i := 540) (by decide +kernel) rfl
theorem m_541 : Cond.code yX7_weight cX7_weight 1 (some .int) ∈ BIG := bm (i := 541) (by decide +kernel) rfl
theorem m_552 : Cond.methodLink RX1 55 yX7_dry ∈ BIG := bm (i := 552) (by decide +kernel) rfl
theorem m_553 : Cond.instanceMethod yX7_dry ∈ BIG := bm (i := 553) (by decide +kernel) rfl
theorem m_554 : Cond.selects RX7 yX7_dry yX7_dry ∈ BIG := bm (i := 554) (by decide +kernel) rfl
theorem m_555 : Cond.code yX7_dry cX7_dry 4 none ∈ BIG := bm (i := 555) (by decide +kernel) rfl
theorem m_227 : Cond.fieldLink RX11 170 "WheelAndWire$Board" "halfHours" "I" ∈ BIG := bm (i := 227) (by decide +kernel) rfl
theorem m_548 : Cond.methodLink RX11 173 yX1_goBy ∈ BIG := bm (i := 548) (by decide +kernel) rfl
theorem m_549 : Cond.instanceMethod yX1_goBy ∈ BIG := bm (i := 549) (by decide +kernel) rfl
theorem m_550 : Cond.selects RX1 yX1_goBy yX1_goBy ∈ BIG := bm (i := 550) (by decide +kernel) rfl
theorem m_551 : Cond.code yX1_goBy cX1_goBy 3 none ∈ BIG := bm (i := 551) (by decide +kernel) rfl
theorem m_562 : Cond.fieldLink RX11 177 "WheelAndWire" "DRYING" "[I" ∈ BIG := bm (i := 562) (by decide +kernel) rfl
theorem m_571 : Cond.methodLink RX7 92 yX7_bareEdges ∈ BIG := bm (i := 571) (by decide +kernel) rfl
theorem m_567 : Cond.methodLink RX11 181 yX7_shave ∈ BIG := bm (i := 567) (by decide +kernel) rfl
theorem m_568 : Cond.instanceMethod yX7_shave ∈ BIG := bm (i := 568) (by decide +kernel) rfl
theorem m_569 : Cond.selects RX7 yX7_shave yX7_shave ∈ BIG := bm (i := 569) (by decide +kernel) rfl
theorem m_570 : Cond.code yX7_shave cX7_shave 2 none ∈ BIG := bm (i := 570) (by decide +kernel) rfl
theorem m_588 : Cond.methodLink RX0 3 Lib.objectInit ∈ BIG := bm (i := 588) (by decide +kernel) rfl
theorem m_60 : Cond.instanceMethod Lib.objectInit ∈ BIG := bm (i := 60) (by decide +kernel) rfl
theorem m_61 : Cond.code Lib.objectInit ⟨#[0xb1]⟩ 1 none ∈ BIG := bm (i := 61) (by decide +kernel) rfl
theorem m_589 : Cond.fieldLink RX0 9 "WheelAndWire$Ask" "weight" "I" ∈ BIG := bm (i := 589) (by decide +kernel) rfl
theorem m_591 : Cond.fieldLink RX0 15 "WheelAndWire$Ask" "most" "I" ∈ BIG := bm (i := 591) (by decide +kernel) rfl
theorem m_592 : Cond.fieldLink RX0 18 "WheelAndWire$Ask" "rind" "I" ∈ BIG := bm (i := 592) (by decide +kernel) rfl
theorem m_156 : Cond.fieldLink RX0 21 "WheelAndWire$Piece" "state" "I" ∈ BIG := bm (i := 156) (by decide +kernel) rfl
theorem m_604 : Cond.methodLink RX0 26 yX7_weight ∈ BIG := bm (i := 604) (by decide +kernel) rfl
theorem m_153 : Cond.fieldLink RX0 29 "WheelAndWire$Piece" "rind" "I" ∈ BIG := bm (i := 153) (by decide +kernel) rfl
theorem m_605 : Cond.methodLink RX0 30 yX0_fits ∈ BIG := bm (i := 605) (by decide +kernel) rfl
theorem m_606 : Cond.instanceMethod yX0_fits ∈ BIG := bm (i := 606) (by decide +kernel) rfl
theorem m_607 : Cond.selects RX0 yX0_fits yX0_fits ∈ BIG := bm (i := 607) (by decide +kernel) rfl
theorem m_53 : Cond.initialized RX0 ∈ BIG := bm (i := 53) (by decide +kernel) rfl
theorem m_608 : Cond.code yX0_fits cX0_fits 3 (some .boolean) ∈ BIG := bm (i := 608) (by decide +kernel) rfl
theorem m_580 : Cond.methodLink RX11 184 yX11_isAsk ∈ BIG := bm (i := 580) (by decide +kernel) rfl
theorem m_581 : Cond.static yX11_isAsk ∈ BIG := bm (i := 581) (by decide +kernel) rfl
theorem m_582 : Cond.code yX11_isAsk cX11_isAsk 3 (some .boolean) ∈ BIG := bm (i := 582) (by decide +kernel) rfl
theorem m_583 : Cond.classLink RX11 188 RX0 ∈ BIG := bm (i := 583) (by decide +kernel) rfl
theorem m_584 : Cond.instantiable RX0 3 ∈ BIG := bm (i := 584) (by decide +kernel) rfl
theorem m_585 : Cond.methodLink RX11 190 yX0_init ∈ BIG := bm (i := 585) (by decide +kernel) rfl
theorem m_586 : Cond.instanceMethod yX0_init ∈ BIG := bm (i := 586) (by decide +kernel) rfl
theorem m_587 : Cond.code yX0_init cX0_init 4 none ∈ BIG := bm (i := 587) (by decide +kernel) rfl
theorem m_600 : Cond.methodLink RX11 193 yX0_isServedBy ∈ BIG := bm (i := 600) (by decide +kernel) rfl
theorem m_601 : Cond.instanceMethod yX0_isServedBy ∈ BIG := bm (i := 601) (by decide +kernel) rfl
theorem m_602 : Cond.selects RX0 yX0_isServedBy yX0_isServedBy ∈ BIG := bm (i := 602) (by decide +kernel) rfl
theorem m_603 : Cond.code yX0_isServedBy cX0_isServedBy 2 (some .boolean) ∈ BIG := bm (i := 603) (by decide +kernel) rfl
theorem m_252 : Cond.fieldLink RX9 35 "WheelAndWire$Shop" "board" "LWheelAndWire$Board;" ∈ BIG := bm (i := 252) (by decide +kernel) rfl
theorem m_223 : Cond.fieldLink RX9 39 "WheelAndWire$Board" "size" "I" ∈ BIG := bm (i := 223) (by decide +kernel) rfl
theorem m_220 : Cond.fieldLink RX9 45 "WheelAndWire$Board" "pieces" "[LWheelAndWire$Piece;" ∈ BIG := bm (i := 220) (by decide +kernel) rfl
theorem m_617 : Cond.methodLink RX9 49 yX7_weight ∈ BIG := bm (i := 617) (by decide +kernel) rfl
theorem m_618 : Cond.methodLink RX9 53 yX0_isServedBy ∈ BIG := bm (i := 618) (by decide +kernel) rfl
theorem m_393 : Cond.fieldLink RX11 41 "WheelAndWire" "shop" "LWheelAndWire$Shop;" ∈ BIG := bm (i := 393) (by decide +kernel) rfl
theorem m_613 : Cond.methodLink RX11 197 yX9_lightestPiece ∈ BIG := bm (i := 613) (by decide +kernel) rfl
theorem m_614 : Cond.instanceMethod yX9_lightestPiece ∈ BIG := bm (i := 614) (by decide +kernel) rfl
theorem m_615 : Cond.selects RX9 yX9_lightestPiece yX9_lightestPiece ∈ BIG := bm (i := 615) (by decide +kernel) rfl
theorem m_45 : Cond.initialized RX9 ∈ BIG := bm (i := 45) (by decide +kernel) rfl
theorem m_616 : Cond.code yX9_lightestPiece cX9_lightestPiece 7 (some .int) ∈ BIG := bm (i := 616) (by decide +kernel) rfl
theorem m_636 : Cond.methodLink RX7 95 yX7_isAcross ∈ BIG := bm (i := 636) (by decide +kernel) rfl
theorem m_637 : Cond.instanceMethod yX7_isAcross ∈ BIG := bm (i := 637) (by decide +kernel) rfl
theorem m_638 : Cond.selects RX7 yX7_isAcross yX7_isAcross ∈ BIG := bm (i := 638) (by decide +kernel) rfl
theorem m_639 : Cond.code yX7_isAcross cX7_isAcross 2 (some .boolean) ∈ BIG := bm (i := 639) (by decide +kernel) rfl
theorem m_640 : Cond.methodLink RX9 67 yX7_isAcross ∈ BIG := bm (i := 640) (by decide +kernel) rfl
theorem m_641 : Cond.methodLink RX9 71 yX7_cutAt ∈ BIG := bm (i := 641) (by decide +kernel) rfl
theorem m_642 : Cond.instanceMethod yX7_cutAt ∈ BIG := bm (i := 642) (by decide +kernel) rfl
theorem m_643 : Cond.selects RX7 yX7_cutAt yX7_cutAt ∈ BIG := bm (i := 643) (by decide +kernel) rfl
theorem m_644 : Cond.code yX7_cutAt cX7_cutAt 2 (some .int) ∈ BIG := bm (i := 644) (by decide +kernel) rfl
theorem m_627 : Cond.constant RX9 59 (1000000) ∈ BIG := bm (i := 627) (by decide +kernel) rfl
theorem m_628 : Cond.methodLink RX9 60 yX7_cuts ∈ BIG := bm (i := 628) (by decide +kernel) rfl
theorem m_629 : Cond.instanceMethod yX7_cuts ∈ BIG := bm (i := 629) (by decide +kernel) rfl
theorem m_630 : Cond.selects RX7 yX7_cuts yX7_cuts ∈ BIG := bm (i := 630) (by decide +kernel) rfl
theorem m_631 : Cond.code yX7_cuts cX7_cuts 1 (some .int) ∈ BIG := bm (i := 631) (by decide +kernel) rfl
theorem m_632 : Cond.methodLink RX9 63 yX7_cutEdges ∈ BIG := bm (i := 632) (by decide +kernel) rfl
theorem m_633 : Cond.instanceMethod yX7_cutEdges ∈ BIG := bm (i := 633) (by decide +kernel) rfl
theorem m_634 : Cond.selects RX7 yX7_cutEdges yX7_cutEdges ∈ BIG := bm (i := 634) (by decide +kernel) rfl
theorem m_635 : Cond.code yX7_cutEdges cX7_cutEdges 2 (some .int) ∈ BIG := bm (i := 635) (by decide +kernel) rfl
theorem m_251 : Cond.fieldLink RX9 31 "WheelAndWire$Shop" "form" "LWheelAndWire$Form;" ∈ BIG := bm (i := 251) (by decide +kernel) rfl
theorem m_253 : Cond.fieldLink RX9 12 "WheelAndWire$Shop" "ahead" "LWheelAndWire$Piece;" ∈ BIG := bm (i := 253) (by decide +kernel) rfl
theorem m_254 : Cond.fieldLink RX9 18 "WheelAndWire$Shop" "behind" "LWheelAndWire$Piece;" ∈ BIG := bm (i := 254) (by decide +kernel) rfl
theorem m_645 : Cond.methodLink RX9 74 yX7_part ∈ BIG := bm (i := 645) (by decide +kernel) rfl
theorem m_646 : Cond.methodLink RX9 78 yX9_told ∈ BIG := bm (i := 646) (by decide +kernel) rfl
theorem m_647 : Cond.instanceMethod yX9_told ∈ BIG := bm (i := 647) (by decide +kernel) rfl
theorem m_648 : Cond.selects RX9 yX9_told yX9_told ∈ BIG := bm (i := 648) (by decide +kernel) rfl
theorem m_649 : Cond.code yX9_told cX9_told 5 (some .int) ∈ BIG := bm (i := 649) (by decide +kernel) rfl
theorem m_623 : Cond.methodLink RX11 201 yX9_shortestCut ∈ BIG := bm (i := 623) (by decide +kernel) rfl
theorem m_624 : Cond.instanceMethod yX9_shortestCut ∈ BIG := bm (i := 624) (by decide +kernel) rfl
theorem m_625 : Cond.selects RX9 yX9_shortestCut yX9_shortestCut ∈ BIG := bm (i := 625) (by decide +kernel) rfl
theorem m_626 : Cond.code yX9_shortestCut cX9_shortestCut 8 (some .int) ∈ BIG := bm (i := 626) (by decide +kernel) rfl
theorem m_658 : Cond.methodLink RX9 82 yX1_stillHas ∈ BIG := bm (i := 658) (by decide +kernel) rfl
theorem m_659 : Cond.methodLink RX9 85 yX1_divide ∈ BIG := bm (i := 659) (by decide +kernel) rfl
theorem m_654 : Cond.methodLink RX11 204 yX9_cutOff ∈ BIG := bm (i := 654) (by decide +kernel) rfl
theorem m_655 : Cond.instanceMethod yX9_cutOff ∈ BIG := bm (i := 655) (by decide +kernel) rfl
theorem m_656 : Cond.selects RX9 yX9_cutOff yX9_cutOff ∈ BIG := bm (i := 656) (by decide +kernel) rfl
theorem m_657 : Cond.code yX9_cutOff cX9_cutOff 4 (some .int) ∈ BIG := bm (i := 657) (by decide +kernel) rfl
theorem m_255 : Cond.fieldLink RX9 21 "WheelAndWire$Shop" "laterAhead" "LWheelAndWire$Piece;" ∈ BIG := bm (i := 255) (by decide +kernel) rfl
theorem m_256 : Cond.fieldLink RX9 24 "WheelAndWire$Shop" "laterBehind" "LWheelAndWire$Piece;" ∈ BIG := bm (i := 256) (by decide +kernel) rfl
theorem m_257 : Cond.fieldLink RX9 27 "WheelAndWire$Shop" "laterWires" "[I" ∈ BIG := bm (i := 257) (by decide +kernel) rfl
theorem m_676 : Cond.methodLink RX9 112 Lib.Math.min.name ∈ BIG := bm (i := 676) (by decide +kernel) rfl
theorem m_677 : Cond.static Lib.Math.min.name ∈ BIG := bm (i := 677) (by decide +kernel) rfl
theorem m_678 : Cond.code Lib.Math.min.name Lib.Math.min.code 2 (some .int) ∈ BIG := bm (i := 678) (by decide +kernel) rfl
theorem m_258 : Cond.fieldLink RX9 89 "WheelAndWire$Shop" "twoWire" "I" ∈ BIG := bm (i := 258) (by decide +kernel) rfl
theorem m_260 : Cond.fieldLink RX9 92 "WheelAndWire$Shop" "twoWay" "I" ∈ BIG := bm (i := 260) (by decide +kernel) rfl
theorem m_672 : Cond.methodLink RX9 99 yX9_laterWireElsewhere ∈ BIG := bm (i := 672) (by decide +kernel) rfl
theorem m_673 : Cond.instanceMethod yX9_laterWireElsewhere ∈ BIG := bm (i := 673) (by decide +kernel) rfl
theorem m_674 : Cond.selects RX9 yX9_laterWireElsewhere yX9_laterWireElsewhere ∈ BIG := bm (i := 674) (by decide +kernel) rfl
theorem m_675 : Cond.code yX9_laterWireElsewhere cX9_laterWireElsewhere 6 (some .int) ∈ BIG := bm (i := 675) (by decide +kernel) rfl
theorem m_668 : Cond.methodLink RX9 95 yX9_laterWire ∈ BIG := bm (i := 668) (by decide +kernel) rfl
theorem m_669 : Cond.instanceMethod yX9_laterWire ∈ BIG := bm (i := 669) (by decide +kernel) rfl
theorem m_670 : Cond.selects RX9 yX9_laterWire yX9_laterWire ∈ BIG := bm (i := 670) (by decide +kernel) rfl
theorem m_671 : Cond.code yX9_laterWire cX9_laterWire 6 (some .int) ∈ BIG := bm (i := 671) (by decide +kernel) rfl
theorem m_687 : Cond.constant RX9 111 (100000) ∈ BIG := bm (i := 687) (by decide +kernel) rfl
theorem m_679 : Cond.methodLink RX9 103 yX9_weighWay ∈ BIG := bm (i := 679) (by decide +kernel) rfl
theorem m_680 : Cond.instanceMethod yX9_weighWay ∈ BIG := bm (i := 680) (by decide +kernel) rfl
theorem m_681 : Cond.selects RX9 yX9_weighWay yX9_weighWay ∈ BIG := bm (i := 681) (by decide +kernel) rfl
theorem m_682 : Cond.code yX9_weighWay cX9_weighWay 3 none ∈ BIG := bm (i := 682) (by decide +kernel) rfl
theorem m_683 : Cond.methodLink RX9 107 yX9_tryCuts ∈ BIG := bm (i := 683) (by decide +kernel) rfl
theorem m_684 : Cond.instanceMethod yX9_tryCuts ∈ BIG := bm (i := 684) (by decide +kernel) rfl
theorem m_685 : Cond.selects RX9 yX9_tryCuts yX9_tryCuts ∈ BIG := bm (i := 685) (by decide +kernel) rfl
theorem m_686 : Cond.code yX9_tryCuts cX9_tryCuts 10 none ∈ BIG := bm (i := 686) (by decide +kernel) rfl
theorem m_664 : Cond.methodLink RX11 208 yX9_lookTwoAhead ∈ BIG := bm (i := 664) (by decide +kernel) rfl
theorem m_665 : Cond.instanceMethod yX9_lookTwoAhead ∈ BIG := bm (i := 665) (by decide +kernel) rfl
theorem m_666 : Cond.selects RX9 yX9_lookTwoAhead yX9_lookTwoAhead ∈ BIG := bm (i := 666) (by decide +kernel) rfl
theorem m_667 : Cond.code yX9_lookTwoAhead cX9_lookTwoAhead 5 none ∈ BIG := bm (i := 667) (by decide +kernel) rfl
theorem m_259 : Cond.fieldLink RX11 212 "WheelAndWire$Shop" "twoWire" "I" ∈ BIG := bm (i := 259) (by decide +kernel) rfl
theorem m_688 : Cond.constant RX11 215 (1000000) ∈ BIG := bm (i := 688) (by decide +kernel) rfl
theorem m_261 : Cond.fieldLink RX11 216 "WheelAndWire$Shop" "twoWay" "I" ∈ BIG := bm (i := 261) (by decide +kernel) rfl
theorem m_297 : Cond.fieldLink RX6 21 "WheelAndWire$OrderPlan" "size" "I" ∈ BIG := bm (i := 297) (by decide +kernel) rfl
theorem m_295 : Cond.fieldLink RX6 11 "WheelAndWire$OrderPlan" "asks" "[LWheelAndWire$Ask;" ∈ BIG := bm (i := 295) (by decide +kernel) rfl
theorem m_299 : Cond.fieldLink RX6 25 "WheelAndWire$OrderPlan" "workedOut" "Z" ∈ BIG := bm (i := 299) (by decide +kernel) rfl
theorem m_298 : Cond.fieldLink RX11 219 "WheelAndWire$OrderPlan" "size" "I" ∈ BIG := bm (i := 298) (by decide +kernel) rfl
theorem m_697 : Cond.methodLink RX11 222 yX6_enter ∈ BIG := bm (i := 697) (by decide +kernel) rfl
theorem m_698 : Cond.instanceMethod yX6_enter ∈ BIG := bm (i := 698) (by decide +kernel) rfl
theorem m_699 : Cond.selects RX6 yX6_enter yX6_enter ∈ BIG := bm (i := 699) (by decide +kernel) rfl
theorem m_47 : Cond.initialized RX6 ∈ BIG := bm (i := 47) (by decide +kernel) rfl
theorem m_700 : Cond.code yX6_enter cX6_enter 2 none ∈ BIG := bm (i := 700) (by decide +kernel) rfl
theorem m_705 : Cond.methodLink RX11 226 yX6_empty ∈ BIG := bm (i := 705) (by decide +kernel) rfl
theorem m_706 : Cond.instanceMethod yX6_empty ∈ BIG := bm (i := 706) (by decide +kernel) rfl
theorem m_707 : Cond.selects RX6 yX6_empty yX6_empty ∈ BIG := bm (i := 707) (by decide +kernel) rfl
theorem m_708 : Cond.code yX6_empty cX6_empty 1 none ∈ BIG := bm (i := 708) (by decide +kernel) rfl
theorem m_721 : Cond.methodLink RX6 33 yX6_everyAsk ∈ BIG := bm (i := 721) (by decide +kernel) rfl
theorem m_722 : Cond.instanceMethod yX6_everyAsk ∈ BIG := bm (i := 722) (by decide +kernel) rfl
theorem m_723 : Cond.selects RX6 yX6_everyAsk yX6_everyAsk ∈ BIG := bm (i := 723) (by decide +kernel) rfl
theorem m_724 : Cond.code yX6_everyAsk cX6_everyAsk 1 (some .int) ∈ BIG := bm (i := 724) (by decide +kernel) rfl
theorem m_590 : Cond.fieldLink RX6 45 "WheelAndWire$Ask" "weight" "I" ∈ BIG := bm (i := 590) (by decide +kernel) rfl
theorem m_296 : Cond.fieldLink RX6 17 "WheelAndWire$OrderPlan" "leastWeights" "[I" ∈ BIG := bm (i := 296) (by decide +kernel) rfl
theorem m_306 : Cond.fieldLink RX8 21 "WheelAndWire$Plan" "wishes" "I" ∈ BIG := bm (i := 306) (by decide +kernel) rfl
theorem m_305 : Cond.sameField "WheelAndWire$OrderPlan" "WheelAndWire$Plan" "form" "LWheelAndWire$Form;" ∈ BIG := bm (i := 305) (by decide +kernel) rfl
theorem m_304 : Cond.fieldLink RX6 49 "WheelAndWire$OrderPlan" "form" "LWheelAndWire$Form;" ∈ BIG := bm (i := 304) (by decide +kernel) rfl
theorem m_766 : Cond.methodLink RX6 65 yX4_weightIn ∈ BIG := bm (i := 766) (by decide +kernel) rfl
theorem m_768 : Cond.methodLink RX6 69 yX4_rindIn ∈ BIG := bm (i := 768) (by decide +kernel) rfl
theorem m_769 : Cond.methodLink RX6 72 yX0_fits ∈ BIG := bm (i := 769) (by decide +kernel) rfl
theorem m_767 : Cond.constant RX6 48 (1000000) ∈ BIG := bm (i := 767) (by decide +kernel) rfl
theorem m_777 : Cond.constant RX8 55 (1000000) ∈ BIG := bm (i := 777) (by decide +kernel) rfl
theorem m_307 : Cond.fieldLink RX8 25 "WheelAndWire$Plan" "costs" "[I" ∈ BIG := bm (i := 307) (by decide +kernel) rfl
theorem m_739 : Cond.methodLink RX8 44 yX8_spotOf ∈ BIG := bm (i := 739) (by decide +kernel) rfl
theorem m_741 : Cond.sameMethod "WheelAndWire$Plan" "WheelAndWire$Plan" "spotOf" "(IIII)I" ∈ BIG := bm (i := 741) (by decide +kernel) rfl
theorem m_744 : Cond.selects RX6 yX8_spotOf yX8_spotOf ∈ BIG := bm (i := 744) (by decide +kernel) rfl
theorem m_740 : Cond.instanceMethod yX8_spotOf ∈ BIG := bm (i := 740) (by decide +kernel) rfl
theorem m_46 : Cond.initialized RX8 ∈ BIG := bm (i := 46) (by decide +kernel) rfl
theorem m_745 : Cond.code yX8_spotOf cX8_spotOf 7 (some .int) ∈ BIG := bm (i := 745) (by decide +kernel) rfl
theorem m_785 : Cond.methodLink RX8 60 ⟨"WheelAndWire$Plan", "cutPrice", "(I)I"⟩ ∈ BIG := bm (i := 785) (by decide +kernel) rfl
theorem m_787 : Cond.sameMethod "WheelAndWire$Plan" "WheelAndWire$Plan" "cutPrice" "(I)I" ∈ BIG := bm (i := 787) (by decide +kernel) rfl
theorem m_794 : Cond.selects RX6 ⟨"WheelAndWire$Plan", "cutPrice", "(I)I"⟩ yX6_cutPrice ∈ BIG := bm (i := 794) (by decide +kernel) rfl
theorem m_795 : Cond.instanceMethod yX6_cutPrice ∈ BIG := bm (i := 795) (by decide +kernel) rfl
theorem m_796 : Cond.code yX6_cutPrice cX6_cutPrice 2 (some .int) ∈ BIG := bm (i := 796) (by decide +kernel) rfl
theorem m_797 : Cond.methodLink RX8 64 yX8_bothCost ∈ BIG := bm (i := 797) (by decide +kernel) rfl
theorem m_799 : Cond.sameMethod "WheelAndWire$Plan" "WheelAndWire$Plan" "bothCost" "(III)I" ∈ BIG := bm (i := 799) (by decide +kernel) rfl
theorem m_802 : Cond.selects RX6 yX8_bothCost yX8_bothCost ∈ BIG := bm (i := 802) (by decide +kernel) rfl
theorem m_798 : Cond.instanceMethod yX8_bothCost ∈ BIG := bm (i := 798) (by decide +kernel) rfl
theorem m_803 : Cond.code yX8_bothCost cX8_bothCost 7 (some .int) ∈ BIG := bm (i := 803) (by decide +kernel) rfl
theorem m_778 : Cond.methodLink RX8 56 yX8_cutCost ∈ BIG := bm (i := 778) (by decide +kernel) rfl
theorem m_780 : Cond.sameMethod "WheelAndWire$Plan" "WheelAndWire$Plan" "cutCost" "(IIIIZII)I" ∈ BIG := bm (i := 780) (by decide +kernel) rfl
theorem m_783 : Cond.selects RX6 yX8_cutCost yX8_cutCost ∈ BIG := bm (i := 783) (by decide +kernel) rfl
theorem m_779 : Cond.instanceMethod yX8_cutCost ∈ BIG := bm (i := 779) (by decide +kernel) rfl
theorem m_784 : Cond.code yX8_cutCost cX8_cutCost 10 (some .int) ∈ BIG := bm (i := 784) (by decide +kernel) rfl
theorem m_731 : Cond.methodLink RX8 37 Lib.Math.min.name ∈ BIG := bm (i := 731) (by decide +kernel) rfl
theorem m_746 : Cond.methodLink RX8 48 ⟨"WheelAndWire$Plan", "verdict", "(IIIII)I"⟩ ∈ BIG := bm (i := 746) (by decide +kernel) rfl
theorem m_748 : Cond.sameMethod "WheelAndWire$Plan" "WheelAndWire$Plan" "verdict" "(IIIII)I" ∈ BIG := bm (i := 748) (by decide +kernel) rfl
theorem m_763 : Cond.selects RX6 ⟨"WheelAndWire$Plan", "verdict", "(IIIII)I"⟩ yX6_verdict ∈ BIG := bm (i := 763) (by decide +kernel) rfl
theorem m_764 : Cond.instanceMethod yX6_verdict ∈ BIG := bm (i := 764) (by decide +kernel) rfl
theorem m_765 : Cond.code yX6_verdict cX6_verdict 8 (some .int) ∈ BIG := bm (i := 765) (by decide +kernel) rfl
theorem m_770 : Cond.methodLink RX8 52 yX8_leastCut ∈ BIG := bm (i := 770) (by decide +kernel) rfl
theorem m_772 : Cond.sameMethod "WheelAndWire$Plan" "WheelAndWire$Plan" "leastCut" "(IIIII)I" ∈ BIG := bm (i := 772) (by decide +kernel) rfl
theorem m_775 : Cond.selects RX6 yX8_leastCut yX8_leastCut ∈ BIG := bm (i := 775) (by decide +kernel) rfl
theorem m_771 : Cond.instanceMethod yX8_leastCut ∈ BIG := bm (i := 771) (by decide +kernel) rfl
theorem m_776 : Cond.code yX8_leastCut cX8_leastCut 8 (some .int) ∈ BIG := bm (i := 776) (by decide +kernel) rfl
theorem m_301 : Cond.fieldLink RX8 9 "WheelAndWire$Plan" "form" "LWheelAndWire$Form;" ∈ BIG := bm (i := 301) (by decide +kernel) rfl
theorem m_104 : Cond.fieldLink RX8 29 "WheelAndWire$Form" "rows" "I" ∈ BIG := bm (i := 104) (by decide +kernel) rfl
theorem m_110 : Cond.fieldLink RX8 34 "WheelAndWire$Form" "columns" "I" ∈ BIG := bm (i := 110) (by decide +kernel) rfl
theorem m_732 : Cond.methodLink RX8 40 yX8_settle ∈ BIG := bm (i := 732) (by decide +kernel) rfl
theorem m_734 : Cond.sameMethod "WheelAndWire$Plan" "WheelAndWire$Plan" "settle" "(IIIII)V" ∈ BIG := bm (i := 734) (by decide +kernel) rfl
theorem m_737 : Cond.selects RX6 yX8_settle yX8_settle ∈ BIG := bm (i := 737) (by decide +kernel) rfl
theorem m_733 : Cond.instanceMethod yX8_settle ∈ BIG := bm (i := 733) (by decide +kernel) rfl
theorem m_738 : Cond.code yX8_settle cX8_settle 9 none ∈ BIG := bm (i := 738) (by decide +kernel) rfl
theorem m_717 : Cond.methodLink RX6 29 yX6_addUpWishes ∈ BIG := bm (i := 717) (by decide +kernel) rfl
theorem m_718 : Cond.instanceMethod yX6_addUpWishes ∈ BIG := bm (i := 718) (by decide +kernel) rfl
theorem m_719 : Cond.selects RX6 yX6_addUpWishes yX6_addUpWishes ∈ BIG := bm (i := 719) (by decide +kernel) rfl
theorem m_720 : Cond.code yX6_addUpWishes cX6_addUpWishes 4 none ∈ BIG := bm (i := 720) (by decide +kernel) rfl
theorem m_725 : Cond.methodLink RX6 37 ⟨"WheelAndWire$OrderPlan", "workOut", "(I)V"⟩ ∈ BIG := bm (i := 725) (by decide +kernel) rfl
theorem m_726 : Cond.sameMethod "WheelAndWire$OrderPlan" "WheelAndWire$Plan" "workOut" "(I)V" ∈ BIG := bm (i := 726) (by decide +kernel) rfl
theorem m_728 : Cond.selects RX6 ⟨"WheelAndWire$OrderPlan", "workOut", "(I)V"⟩ yX8_workOut ∈ BIG := bm (i := 728) (by decide +kernel) rfl
theorem m_729 : Cond.instanceMethod yX8_workOut ∈ BIG := bm (i := 729) (by decide +kernel) rfl
theorem m_730 : Cond.code yX8_workOut cX8_workOut 6 none ∈ BIG := bm (i := 730) (by decide +kernel) rfl
theorem m_804 : Cond.methodLink RX6 41 ⟨"WheelAndWire$OrderPlan", "costOfAll", "(I)I"⟩ ∈ BIG := bm (i := 804) (by decide +kernel) rfl
theorem m_805 : Cond.sameMethod "WheelAndWire$OrderPlan" "WheelAndWire$Plan" "costOfAll" "(I)I" ∈ BIG := bm (i := 805) (by decide +kernel) rfl
theorem m_807 : Cond.selects RX6 ⟨"WheelAndWire$OrderPlan", "costOfAll", "(I)I"⟩ yX8_costOfAll ∈ BIG := bm (i := 807) (by decide +kernel) rfl
theorem m_808 : Cond.instanceMethod yX8_costOfAll ∈ BIG := bm (i := 808) (by decide +kernel) rfl
theorem m_809 : Cond.code yX8_costOfAll cX8_costOfAll 2 (some .int) ∈ BIG := bm (i := 809) (by decide +kernel) rfl
theorem m_713 : Cond.methodLink RX11 227 yX6_shortest ∈ BIG := bm (i := 713) (by decide +kernel) rfl
theorem m_714 : Cond.instanceMethod yX6_shortest ∈ BIG := bm (i := 714) (by decide +kernel) rfl
theorem m_715 : Cond.selects RX6 yX6_shortest yX6_shortest ∈ BIG := bm (i := 715) (by decide +kernel) rfl
theorem m_716 : Cond.code yX6_shortest cX6_shortest 1 (some .int) ∈ BIG := bm (i := 716) (by decide +kernel) rfl
theorem m_106 : Cond.fieldLink RX6 53 "WheelAndWire$Form" "rows" "I" ∈ BIG := bm (i := 106) (by decide +kernel) rfl
theorem m_112 : Cond.fieldLink RX6 58 "WheelAndWire$Form" "columns" "I" ∈ BIG := bm (i := 112) (by decide +kernel) rfl
theorem m_818 : Cond.methodLink RX6 61 ⟨"WheelAndWire$OrderPlan", "cutCost", "(IIIIZII)I"⟩ ∈ BIG := bm (i := 818) (by decide +kernel) rfl
theorem m_819 : Cond.sameMethod "WheelAndWire$OrderPlan" "WheelAndWire$Plan" "cutCost" "(IIIIZII)I" ∈ BIG := bm (i := 819) (by decide +kernel) rfl
theorem m_821 : Cond.selects RX6 ⟨"WheelAndWire$OrderPlan", "cutCost", "(IIIIZII)I"⟩ yX8_cutCost ∈ BIG := bm (i := 821) (by decide +kernel) rfl
theorem m_814 : Cond.methodLink RX11 230 yX6_firstCut ∈ BIG := bm (i := 814) (by decide +kernel) rfl
theorem m_815 : Cond.instanceMethod yX6_firstCut ∈ BIG := bm (i := 815) (by decide +kernel) rfl
theorem m_816 : Cond.selects RX6 yX6_firstCut yX6_firstCut ∈ BIG := bm (i := 816) (by decide +kernel) rfl
theorem m_817 : Cond.code yX6_firstCut cX6_firstCut 3 (some .int) ∈ BIG := bm (i := 817) (by decide +kernel) rfl
theorem m_303 : Cond.sameField "WheelAndWire$FairPlan" "WheelAndWire$Plan" "form" "LWheelAndWire$Form;" ∈ BIG := bm (i := 303) (by decide +kernel) rfl
theorem m_302 : Cond.fieldLink RX3 15 "WheelAndWire$FairPlan" "form" "LWheelAndWire$Form;" ∈ BIG := bm (i := 302) (by decide +kernel) rfl
theorem m_752 : Cond.methodLink RX3 27 yX4_weightIn ∈ BIG := bm (i := 752) (by decide +kernel) rfl
theorem m_753 : Cond.constant RX3 34 (1000000) ∈ BIG := bm (i := 753) (by decide +kernel) rfl
theorem m_329 : Cond.fieldLink RX3 9 "WheelAndWire$FairPlan" "weightEach" "I" ∈ BIG := bm (i := 329) (by decide +kernel) rfl
theorem m_754 : Cond.methodLink RX3 31 yX4_rindIn ∈ BIG := bm (i := 754) (by decide +kernel) rfl
theorem m_330 : Cond.fieldLink RX3 35 "WheelAndWire$FairPlan" "rindEach" "I" ∈ BIG := bm (i := 330) (by decide +kernel) rfl
theorem m_742 : Cond.selects RX3 yX8_spotOf yX8_spotOf ∈ BIG := bm (i := 742) (by decide +kernel) rfl
theorem m_788 : Cond.selects RX3 ⟨"WheelAndWire$Plan", "cutPrice", "(I)I"⟩ yX3_cutPrice ∈ BIG := bm (i := 788) (by decide +kernel) rfl
theorem m_789 : Cond.instanceMethod yX3_cutPrice ∈ BIG := bm (i := 789) (by decide +kernel) rfl
theorem m_49 : Cond.initialized RX3 ∈ BIG := bm (i := 49) (by decide +kernel) rfl
theorem m_790 : Cond.code yX3_cutPrice cX3_cutPrice 2 (some .int) ∈ BIG := bm (i := 790) (by decide +kernel) rfl
theorem m_800 : Cond.selects RX3 yX8_bothCost yX8_bothCost ∈ BIG := bm (i := 800) (by decide +kernel) rfl
theorem m_781 : Cond.selects RX3 yX8_cutCost yX8_cutCost ∈ BIG := bm (i := 781) (by decide +kernel) rfl
theorem m_749 : Cond.selects RX3 ⟨"WheelAndWire$Plan", "verdict", "(IIIII)I"⟩ yX3_verdict ∈ BIG := bm (i := 749) (by decide +kernel) rfl
theorem m_750 : Cond.instanceMethod yX3_verdict ∈ BIG := bm (i := 750) (by decide +kernel) rfl
theorem m_751 : Cond.code yX3_verdict cX3_verdict 8 (some .int) ∈ BIG := bm (i := 751) (by decide +kernel) rfl
theorem m_773 : Cond.selects RX3 yX8_leastCut yX8_leastCut ∈ BIG := bm (i := 773) (by decide +kernel) rfl
theorem m_735 : Cond.selects RX3 yX8_settle yX8_settle ∈ BIG := bm (i := 735) (by decide +kernel) rfl
theorem m_102 : Cond.fieldLink RX3 19 "WheelAndWire$Form" "rows" "I" ∈ BIG := bm (i := 102) (by decide +kernel) rfl
theorem m_108 : Cond.fieldLink RX3 24 "WheelAndWire$Form" "columns" "I" ∈ BIG := bm (i := 108) (by decide +kernel) rfl
theorem m_830 : Cond.methodLink RX3 38 ⟨"WheelAndWire$FairPlan", "workOut", "(I)V"⟩ ∈ BIG := bm (i := 830) (by decide +kernel) rfl
theorem m_831 : Cond.sameMethod "WheelAndWire$FairPlan" "WheelAndWire$Plan" "workOut" "(I)V" ∈ BIG := bm (i := 831) (by decide +kernel) rfl
theorem m_832 : Cond.selects RX3 ⟨"WheelAndWire$FairPlan", "workOut", "(I)V"⟩ yX8_workOut ∈ BIG := bm (i := 832) (by decide +kernel) rfl
theorem m_833 : Cond.methodLink RX3 42 ⟨"WheelAndWire$FairPlan", "costOfAll", "(I)I"⟩ ∈ BIG := bm (i := 833) (by decide +kernel) rfl
theorem m_834 : Cond.sameMethod "WheelAndWire$FairPlan" "WheelAndWire$Plan" "costOfAll" "(I)I" ∈ BIG := bm (i := 834) (by decide +kernel) rfl
theorem m_835 : Cond.selects RX3 ⟨"WheelAndWire$FairPlan", "costOfAll", "(I)I"⟩ yX8_costOfAll ∈ BIG := bm (i := 835) (by decide +kernel) rfl
theorem m_395 : Cond.fieldLink RX11 55 "WheelAndWire" "fairPlan" "LWheelAndWire$FairPlan;" ∈ BIG := bm (i := 395) (by decide +kernel) rfl
theorem m_826 : Cond.methodLink RX11 233 yX3_shortest ∈ BIG := bm (i := 826) (by decide +kernel) rfl
theorem m_827 : Cond.instanceMethod yX3_shortest ∈ BIG := bm (i := 827) (by decide +kernel) rfl
theorem m_828 : Cond.selects RX3 yX3_shortest yX3_shortest ∈ BIG := bm (i := 828) (by decide +kernel) rfl
theorem m_829 : Cond.code yX3_shortest cX3_shortest 4 (some .int) ∈ BIG := bm (i := 829) (by decide +kernel) rfl
theorem m_345 : Cond.fieldLink RX5 9 "WheelAndWire$LeftPlan" "tops" "[I" ∈ BIG := bm (i := 345) (by decide +kernel) rfl
theorem m_346 : Cond.fieldLink RX5 15 "WheelAndWire$LeftPlan" "bottoms" "[I" ∈ BIG := bm (i := 346) (by decide +kernel) rfl
theorem m_347 : Cond.fieldLink RX5 18 "WheelAndWire$LeftPlan" "lefts" "[I" ∈ BIG := bm (i := 347) (by decide +kernel) rfl
theorem m_348 : Cond.fieldLink RX5 21 "WheelAndWire$LeftPlan" "rights" "[I" ∈ BIG := bm (i := 348) (by decide +kernel) rfl
theorem m_758 : Cond.methodLink RX5 32 yX5_isApart ∈ BIG := bm (i := 758) (by decide +kernel) rfl
theorem m_759 : Cond.instanceMethod yX5_isApart ∈ BIG := bm (i := 759) (by decide +kernel) rfl
theorem m_760 : Cond.selects RX5 yX5_isApart yX5_isApart ∈ BIG := bm (i := 760) (by decide +kernel) rfl
theorem m_761 : Cond.code yX5_isApart cX5_isApart 6 (some .boolean) ∈ BIG := bm (i := 761) (by decide +kernel) rfl
theorem m_840 : Cond.methodLink RX11 235 yX5_touches ∈ BIG := bm (i := 840) (by decide +kernel) rfl
theorem m_841 : Cond.instanceMethod yX5_touches ∈ BIG := bm (i := 841) (by decide +kernel) rfl
theorem m_842 : Cond.selects RX5 yX5_touches yX5_touches ∈ BIG := bm (i := 842) (by decide +kernel) rfl
theorem m_843 : Cond.code yX5_touches cX5_touches 6 (some .boolean) ∈ BIG := bm (i := 843) (by decide +kernel) rfl
theorem m_350 : Cond.fieldLink RX11 238 "WheelAndWire$LeftPlan" "size" "I" ∈ BIG := bm (i := 350) (by decide +kernel) rfl
theorem m_844 : Cond.methodLink RX11 239 yX5_enter ∈ BIG := bm (i := 844) (by decide +kernel) rfl
theorem m_845 : Cond.instanceMethod yX5_enter ∈ BIG := bm (i := 845) (by decide +kernel) rfl
theorem m_846 : Cond.selects RX5 yX5_enter yX5_enter ∈ BIG := bm (i := 846) (by decide +kernel) rfl
theorem m_847 : Cond.code yX5_enter cX5_enter 5 none ∈ BIG := bm (i := 847) (by decide +kernel) rfl
theorem m_762 : Cond.constant RX5 44 (1000000) ∈ BIG := bm (i := 762) (by decide +kernel) rfl
theorem m_743 : Cond.selects RX5 yX8_spotOf yX8_spotOf ∈ BIG := bm (i := 743) (by decide +kernel) rfl
theorem m_791 : Cond.selects RX5 ⟨"WheelAndWire$Plan", "cutPrice", "(I)I"⟩ yX5_cutPrice ∈ BIG := bm (i := 791) (by decide +kernel) rfl
theorem m_792 : Cond.instanceMethod yX5_cutPrice ∈ BIG := bm (i := 792) (by decide +kernel) rfl
theorem m_793 : Cond.code yX5_cutPrice cX5_cutPrice 2 (some .int) ∈ BIG := bm (i := 793) (by decide +kernel) rfl
theorem m_801 : Cond.selects RX5 yX8_bothCost yX8_bothCost ∈ BIG := bm (i := 801) (by decide +kernel) rfl
theorem m_782 : Cond.selects RX5 yX8_cutCost yX8_cutCost ∈ BIG := bm (i := 782) (by decide +kernel) rfl
theorem m_755 : Cond.selects RX5 ⟨"WheelAndWire$Plan", "verdict", "(IIIII)I"⟩ yX5_verdict ∈ BIG := bm (i := 755) (by decide +kernel) rfl
theorem m_756 : Cond.instanceMethod yX5_verdict ∈ BIG := bm (i := 756) (by decide +kernel) rfl
theorem m_757 : Cond.code yX5_verdict cX5_verdict 10 (some .int) ∈ BIG := bm (i := 757) (by decide +kernel) rfl
theorem m_774 : Cond.selects RX5 yX8_leastCut yX8_leastCut ∈ BIG := bm (i := 774) (by decide +kernel) rfl
theorem m_736 : Cond.selects RX5 yX8_settle yX8_settle ∈ BIG := bm (i := 736) (by decide +kernel) rfl
theorem m_856 : Cond.methodLink RX5 36 ⟨"WheelAndWire$LeftPlan", "workOut", "(I)V"⟩ ∈ BIG := bm (i := 856) (by decide +kernel) rfl
theorem m_857 : Cond.sameMethod "WheelAndWire$LeftPlan" "WheelAndWire$Plan" "workOut" "(I)V" ∈ BIG := bm (i := 857) (by decide +kernel) rfl
theorem m_858 : Cond.selects RX5 ⟨"WheelAndWire$LeftPlan", "workOut", "(I)V"⟩ yX8_workOut ∈ BIG := bm (i := 858) (by decide +kernel) rfl
theorem m_859 : Cond.methodLink RX5 40 ⟨"WheelAndWire$LeftPlan", "costOfAll", "(I)I"⟩ ∈ BIG := bm (i := 859) (by decide +kernel) rfl
theorem m_860 : Cond.sameMethod "WheelAndWire$LeftPlan" "WheelAndWire$Plan" "costOfAll" "(I)I" ∈ BIG := bm (i := 860) (by decide +kernel) rfl
theorem m_861 : Cond.selects RX5 ⟨"WheelAndWire$LeftPlan", "costOfAll", "(I)I"⟩ yX8_costOfAll ∈ BIG := bm (i := 861) (by decide +kernel) rfl
theorem m_852 : Cond.methodLink RX11 242 yX5_fewest ∈ BIG := bm (i := 852) (by decide +kernel) rfl
theorem m_853 : Cond.instanceMethod yX5_fewest ∈ BIG := bm (i := 853) (by decide +kernel) rfl
theorem m_854 : Cond.selects RX5 yX5_fewest yX5_fewest ∈ BIG := bm (i := 854) (by decide +kernel) rfl
theorem m_855 : Cond.code yX5_fewest cX5_fewest 1 (some .int) ∈ BIG := bm (i := 855) (by decide +kernel) rfl
theorem m_114 : Cond.fieldLink RX11 245 "WheelAndWire$Form" "ripeFrom" "I" ∈ BIG := bm (i := 114) (by decide +kernel) rfl
theorem m_116 : Cond.fieldLink RX11 248 "WheelAndWire$Form" "ripeFor" "I" ∈ BIG := bm (i := 116) (by decide +kernel) rfl
theorem m_884 : Cond.methodLink RX4 64 Lib.Math.min.name ∈ BIG := bm (i := 884) (by decide +kernel) rfl
theorem m_113 : Cond.fieldLink RX4 28 "WheelAndWire$Form" "ripeFrom" "I" ∈ BIG := bm (i := 113) (by decide +kernel) rfl
theorem m_115 : Cond.fieldLink RX4 31 "WheelAndWire$Form" "ripeFor" "I" ∈ BIG := bm (i := 115) (by decide +kernel) rfl
theorem m_880 : Cond.methodLink RX7 110 yX4_isRipe ∈ BIG := bm (i := 880) (by decide +kernel) rfl
theorem m_881 : Cond.instanceMethod yX4_isRipe ∈ BIG := bm (i := 881) (by decide +kernel) rfl
theorem m_882 : Cond.selects RX4 yX4_isRipe yX4_isRipe ∈ BIG := bm (i := 882) (by decide +kernel) rfl
theorem m_883 : Cond.code yX4_isRipe cX4_isRipe 6 (some .boolean) ∈ BIG := bm (i := 883) (by decide +kernel) rfl
theorem m_889 : Cond.methodLink RX7 107 yX4_kindAt ∈ BIG := bm (i := 889) (by decide +kernel) rfl
theorem m_894 : Cond.methodLink RX11 312 Lib.MathLoose.abs_long.x ∈ BIG := bm (i := 894) (by decide +kernel) rfl
theorem m_895 : Cond.static Lib.MathLoose.abs_long.x ∈ BIG := bm (i := 895) (by decide +kernel) rfl
theorem m_896 : Cond.code Lib.MathLoose.abs_long.x Lib.MathLoose.abs_long.code 2 (some .long) ∈ BIG := bm (i := 896) (by decide +kernel) rfl
theorem m_897 : Cond.methodLink RX11 316 Lib.MathLoose.max_long.x ∈ BIG := bm (i := 897) (by decide +kernel) rfl
theorem m_898 : Cond.static Lib.MathLoose.max_long.x ∈ BIG := bm (i := 898) (by decide +kernel) rfl
theorem m_899 : Cond.code Lib.MathLoose.max_long.x Lib.MathLoose.max_long.code 4 (some .long) ∈ BIG := bm (i := 899) (by decide +kernel) rfl
theorem m_875 : Cond.constantLong RX11 253 (-2) ∈ BIG := bm (i := 875) (by decide +kernel) rfl
theorem m_876 : Cond.methodLink RX11 255 yX7_ripePlaces ∈ BIG := bm (i := 876) (by decide +kernel) rfl
theorem m_877 : Cond.instanceMethod yX7_ripePlaces ∈ BIG := bm (i := 877) (by decide +kernel) rfl
theorem m_878 : Cond.selects RX7 yX7_ripePlaces yX7_ripePlaces ∈ BIG := bm (i := 878) (by decide +kernel) rfl
theorem m_879 : Cond.code yX7_ripePlaces cX7_ripePlaces 6 (some .int) ∈ BIG := bm (i := 879) (by decide +kernel) rfl
theorem m_885 : Cond.methodLink RX11 259 yX7_pastePlaces ∈ BIG := bm (i := 885) (by decide +kernel) rfl
theorem m_886 : Cond.instanceMethod yX7_pastePlaces ∈ BIG := bm (i := 886) (by decide +kernel) rfl
theorem m_887 : Cond.selects RX7 yX7_pastePlaces yX7_pastePlaces ∈ BIG := bm (i := 887) (by decide +kernel) rfl
theorem m_888 : Cond.code yX7_pastePlaces cX7_pastePlaces 5 (some .int) ∈ BIG := bm (i := 888) (by decide +kernel) rfl
theorem m_890 : Cond.methodLink RX11 262 Lib.Math.max.name ∈ BIG := bm (i := 890) (by decide +kernel) rfl
theorem m_891 : Cond.methodLink RX11 267 yX11_commonDivisor ∈ BIG := bm (i := 891) (by decide +kernel) rfl
theorem m_892 : Cond.static yX11_commonDivisor ∈ BIG := bm (i := 892) (by decide +kernel) rfl
theorem m_893 : Cond.code yX11_commonDivisor cX11_commonDivisor 11 (some .long) ∈ BIG := bm (i := 893) (by decide +kernel) rfl
theorem m_874 : Cond.constantLong RX11 251 (-1) ∈ BIG := bm (i := 874) (by decide +kernel) rfl
theorem m_908 : Cond.methodLink RX1 59 yX7_ripePlaces ∈ BIG := bm (i := 908) (by decide +kernel) rfl
theorem m_909 : Cond.methodLink RX1 63 yX7_pastePlaces ∈ BIG := bm (i := 909) (by decide +kernel) rfl
theorem m_910 : Cond.methodLink RX1 67 Lib.Math.max.name ∈ BIG := bm (i := 910) (by decide +kernel) rfl
theorem m_904 : Cond.methodLink RX11 271 yX1_ripestPiece ∈ BIG := bm (i := 904) (by decide +kernel) rfl
theorem m_905 : Cond.instanceMethod yX1_ripestPiece ∈ BIG := bm (i := 905) (by decide +kernel) rfl
theorem m_906 : Cond.selects RX1 yX1_ripestPiece yX1_ripestPiece ∈ BIG := bm (i := 906) (by decide +kernel) rfl
theorem m_907 : Cond.code yX1_ripestPiece cX1_ripestPiece 8 (some .int) ∈ BIG := bm (i := 907) (by decide +kernel) rfl
theorem m_378 : Cond.fieldLink RX2 21 "WheelAndWire$Books" "overs" "I" ∈ BIG := bm (i := 378) (by decide +kernel) rfl
theorem m_374 : Cond.fieldLink RX2 9 "WheelAndWire$Books" "limits" "[I" ∈ BIG := bm (i := 374) (by decide +kernel) rfl
theorem m_397 : Cond.fieldLink RX11 69 "WheelAndWire" "books" "LWheelAndWire$Books;" ∈ BIG := bm (i := 397) (by decide +kernel) rfl
theorem m_379 : Cond.fieldLink RX11 274 "WheelAndWire$Books" "overs" "I" ∈ BIG := bm (i := 379) (by decide +kernel) rfl
theorem m_915 : Cond.methodLink RX11 277 yX2_enter ∈ BIG := bm (i := 915) (by decide +kernel) rfl
theorem m_916 : Cond.instanceMethod yX2_enter ∈ BIG := bm (i := 916) (by decide +kernel) rfl
theorem m_917 : Cond.selects RX2 yX2_enter yX2_enter ∈ BIG := bm (i := 917) (by decide +kernel) rfl
theorem m_51 : Cond.initialized RX2 ∈ BIG := bm (i := 51) (by decide +kernel) rfl
theorem m_918 : Cond.code yX2_enter cX2_enter 2 none ∈ BIG := bm (i := 918) (by decide +kernel) rfl
theorem m_923 : Cond.methodLink RX11 279 yX2_earnings ∈ BIG := bm (i := 923) (by decide +kernel) rfl
theorem m_924 : Cond.instanceMethod yX2_earnings ∈ BIG := bm (i := 924) (by decide +kernel) rfl
theorem m_925 : Cond.selects RX2 yX2_earnings yX2_earnings ∈ BIG := bm (i := 925) (by decide +kernel) rfl
theorem m_926 : Cond.code yX2_earnings cX2_earnings 4 (some .int) ∈ BIG := bm (i := 926) (by decide +kernel) rfl
theorem m_935 : Cond.methodLink RX2 25 yX2_earnings ∈ BIG := bm (i := 935) (by decide +kernel) rfl
theorem m_931 : Cond.methodLink RX11 282 yX2_dearestOver ∈ BIG := bm (i := 931) (by decide +kernel) rfl
theorem m_932 : Cond.instanceMethod yX2_dearestOver ∈ BIG := bm (i := 932) (by decide +kernel) rfl
theorem m_933 : Cond.selects RX2 yX2_dearestOver yX2_dearestOver ∈ BIG := bm (i := 933) (by decide +kernel) rfl
theorem m_934 : Cond.code yX2_dearestOver cX2_dearestOver 5 (some .int) ∈ BIG := bm (i := 934) (by decide +kernel) rfl
theorem m_375 : Cond.fieldLink RX2 15 "WheelAndWire$Books" "times" "[I" ∈ BIG := bm (i := 375) (by decide +kernel) rfl
theorem m_377 : Cond.fieldLink RX2 18 "WheelAndWire$Books" "bought" "[I" ∈ BIG := bm (i := 377) (by decide +kernel) rfl
theorem m_940 : Cond.methodLink RX11 285 yX2_enterTaste ∈ BIG := bm (i := 940) (by decide +kernel) rfl
theorem m_941 : Cond.instanceMethod yX2_enterTaste ∈ BIG := bm (i := 941) (by decide +kernel) rfl
theorem m_942 : Cond.selects RX2 yX2_enterTaste yX2_enterTaste ∈ BIG := bm (i := 942) (by decide +kernel) rfl
theorem m_943 : Cond.code yX2_enterTaste cX2_enterTaste 3 none ∈ BIG := bm (i := 943) (by decide +kernel) rfl
theorem m_376 : Cond.fieldLink RX11 289 "WheelAndWire$Books" "times" "[I" ∈ BIG := bm (i := 376) (by decide +kernel) rfl
theorem m_957 : Cond.constantLong RX2 35 (2) ∈ BIG := bm (i := 957) (by decide +kernel) rfl
theorem m_952 : Cond.constantLong RX2 29 (20) ∈ BIG := bm (i := 952) (by decide +kernel) rfl
theorem m_953 : Cond.methodLink RX2 31 yX2_gainBelow ∈ BIG := bm (i := 953) (by decide +kernel) rfl
theorem m_954 : Cond.instanceMethod yX2_gainBelow ∈ BIG := bm (i := 954) (by decide +kernel) rfl
theorem m_955 : Cond.selects RX2 yX2_gainBelow yX2_gainBelow ∈ BIG := bm (i := 955) (by decide +kernel) rfl
theorem m_956 : Cond.code yX2_gainBelow cX2_gainBelow 2 (some .long) ∈ BIG := bm (i := 956) (by decide +kernel) rfl
theorem m_948 : Cond.methodLink RX11 292 yX2_gainAbove ∈ BIG := bm (i := 948) (by decide +kernel) rfl
theorem m_949 : Cond.instanceMethod yX2_gainAbove ∈ BIG := bm (i := 949) (by decide +kernel) rfl
theorem m_950 : Cond.selects RX2 yX2_gainAbove yX2_gainAbove ∈ BIG := bm (i := 950) (by decide +kernel) rfl
theorem m_951 : Cond.code yX2_gainAbove cX2_gainAbove 2 (some .long) ∈ BIG := bm (i := 951) (by decide +kernel) rfl
theorem m_958 : Cond.methodLink RX11 296 yX2_gainBelow ∈ BIG := bm (i := 958) (by decide +kernel) rfl
theorem m_959 : Cond.constantLong RX11 299 (1000000) ∈ BIG := bm (i := 959) (by decide +kernel) rfl
theorem m_968 : Cond.methodLink RX2 37 yX2_gainAbove ∈ BIG := bm (i := 968) (by decide +kernel) rfl
theorem m_964 : Cond.methodLink RX11 301 yX2_dearestTastes ∈ BIG := bm (i := 964) (by decide +kernel) rfl
theorem m_965 : Cond.instanceMethod yX2_dearestTastes ∈ BIG := bm (i := 965) (by decide +kernel) rfl
theorem m_966 : Cond.selects RX2 yX2_dearestTastes yX2_dearestTastes ∈ BIG := bm (i := 966) (by decide +kernel) rfl
theorem m_967 : Cond.code yX2_dearestTastes cX2_dearestTastes 3 (some .int) ∈ BIG := bm (i := 967) (by decide +kernel) rfl
theorem m_398 : Cond.fieldLink RX11 73 "WheelAndWire" "price" "I" ∈ BIG := bm (i := 398) (by decide +kernel) rfl
theorem m_399 : Cond.fieldLink RX11 77 "WheelAndWire" "endPrice" "I" ∈ BIG := bm (i := 399) (by decide +kernel) rfl
theorem m_225 : Cond.fieldLink RX11 304 "WheelAndWire$Board" "size" "I" ∈ BIG := bm (i := 225) (by decide +kernel) rfl
theorem m_981 : Cond.methodLink RX11 305 yX1_become ∈ BIG := bm (i := 981) (by decide +kernel) rfl
theorem m_982 : Cond.instanceMethod yX1_become ∈ BIG := bm (i := 982) (by decide +kernel) rfl
theorem m_983 : Cond.selects RX1 yX1_become yX1_become ∈ BIG := bm (i := 983) (by decide +kernel) rfl
theorem m_984 : Cond.code yX1_become cX1_become 3 none ∈ BIG := bm (i := 984) (by decide +kernel) rfl
theorem m_985 : Cond.methodLink RX11 309 yX1_standing ∈ BIG := bm (i := 985) (by decide +kernel) rfl
theorem m_986 : Cond.instanceMethod yX1_standing ∈ BIG := bm (i := 986) (by decide +kernel) rfl
theorem m_987 : Cond.selects RX1 yX1_standing yX1_standing ∈ BIG := bm (i := 987) (by decide +kernel) rfl
theorem m_988 : Cond.code yX1_standing cX1_standing 3 (some .int) ∈ BIG := bm (i := 988) (by decide +kernel) rfl
theorem m_1003 : Cond.fieldLink RX12 1 "WheelAndWireModel" "thrown" "I" ∈ BIG := bm (i := 1003) (by decide +kernel) rfl
theorem m_1150 : Cond.constantLong RX12 111 (8) ∈ BIG := bm (i := 1150) (by decide +kernel) rfl
theorem m_1151 : Cond.methodLink RX12 113 yX12_in ∈ BIG := bm (i := 1151) (by decide +kernel) rfl
theorem m_1152 : Cond.static yX12_in ∈ BIG := bm (i := 1152) (by decide +kernel) rfl
theorem m_52 : Cond.initialized RX12 ∈ BIG := bm (i := 52) (by decide +kernel) rfl
theorem m_1153 : Cond.code yX12_in cX12_in 6 (some .boolean) ∈ BIG := bm (i := 1153) (by decide +kernel) rfl
theorem m_1005 : Cond.fieldLink RX12 117 "WheelAndWireModel" "textSize" "I" ∈ BIG := bm (i := 1005) (by decide +kernel) rfl
theorem m_1004 : Cond.fieldLink RX12 13 "WheelAndWireModel" "text" "[I" ∈ BIG := bm (i := 1004) (by decide +kernel) rfl
theorem m_1010 : Cond.fieldLink RX12 120 "WheelAndWireModel" "readRows" "I" ∈ BIG := bm (i := 1010) (by decide +kernel) rfl
theorem m_1011 : Cond.fieldLink RX12 123 "WheelAndWireModel" "readColumns" "I" ∈ BIG := bm (i := 1011) (by decide +kernel) rfl
theorem m_1166 : Cond.methodLink RX12 126 yX12_kind ∈ BIG := bm (i := 1166) (by decide +kernel) rfl
theorem m_1167 : Cond.static yX12_kind ∈ BIG := bm (i := 1167) (by decide +kernel) rfl
theorem m_1168 : Cond.code yX12_kind cX12_kind 1 (some .int) ∈ BIG := bm (i := 1168) (by decide +kernel) rfl
theorem m_1009 : Cond.fieldLink RX12 26 "WheelAndWireModel" "readPlaces" "[I" ∈ BIG := bm (i := 1009) (by decide +kernel) rfl
theorem m_1162 : Cond.methodLink RX12 130 yX12_readForm ∈ BIG := bm (i := 1162) (by decide +kernel) rfl
theorem m_1164 : Cond.instanceMethod yX12_readForm ∈ BIG := bm (i := 1164) (by decide +kernel) rfl
theorem m_0 : Cond.selects RX12 yX12_readForm yX12_readForm ∈ BIG := bm (i := 0) (by decide +kernel) rfl
theorem m_1165 : Cond.code yX12_readForm cX12_readForm 5 (some .int) ∈ BIG := bm (i := 1165) (by decide +kernel) rfl
theorem m_1012 : Cond.fieldLink RX12 29 "WheelAndWireModel" "many" "I" ∈ BIG := bm (i := 1012) (by decide +kernel) rfl
theorem m_1013 : Cond.fieldLink RX12 32 "WheelAndWireModel" "top" "[I" ∈ BIG := bm (i := 1013) (by decide +kernel) rfl
theorem m_1014 : Cond.fieldLink RX12 35 "WheelAndWireModel" "lefts" "[I" ∈ BIG := bm (i := 1014) (by decide +kernel) rfl
theorem m_1015 : Cond.fieldLink RX12 38 "WheelAndWireModel" "high" "[I" ∈ BIG := bm (i := 1015) (by decide +kernel) rfl
theorem m_1007 : Cond.fieldLink RX12 20 "WheelAndWireModel" "rows" "I" ∈ BIG := bm (i := 1007) (by decide +kernel) rfl
theorem m_1016 : Cond.fieldLink RX12 41 "WheelAndWireModel" "wide" "[I" ∈ BIG := bm (i := 1016) (by decide +kernel) rfl
theorem m_1008 : Cond.fieldLink RX12 23 "WheelAndWireModel" "columns" "I" ∈ BIG := bm (i := 1008) (by decide +kernel) rfl
theorem m_1017 : Cond.fieldLink RX12 44 "WheelAndWireModel" "state" "[I" ∈ BIG := bm (i := 1017) (by decide +kernel) rfl
theorem m_1018 : Cond.fieldLink RX12 47 "WheelAndWireModel" "wrap" "[I" ∈ BIG := bm (i := 1018) (by decide +kernel) rfl
theorem m_1019 : Cond.fieldLink RX12 50 "WheelAndWireModel" "off" "[I" ∈ BIG := bm (i := 1019) (by decide +kernel) rfl
theorem m_1020 : Cond.fieldLink RX12 53 "WheelAndWireModel" "dried" "[I" ∈ BIG := bm (i := 1020) (by decide +kernel) rfl
theorem m_1021 : Cond.fieldLink RX12 134 "WheelAndWireModel" "hours" "I" ∈ BIG := bm (i := 1021) (by decide +kernel) rfl
theorem m_1024 : Cond.fieldLink RX12 62 "WheelAndWireModel" "isKept" "[Z" ∈ BIG := bm (i := 1024) (by decide +kernel) rfl
theorem m_1038 : Cond.fieldLink RX12 137 "WheelAndWireModel" "leftMany" "I" ∈ BIG := bm (i := 1038) (by decide +kernel) rfl
theorem m_1006 : Cond.fieldLink RX12 17 "WheelAndWireModel" "places" "[I" ∈ BIG := bm (i := 1006) (by decide +kernel) rfl
theorem m_1173 : Cond.methodLink RX12 140 yX12_begin ∈ BIG := bm (i := 1173) (by decide +kernel) rfl
theorem m_1175 : Cond.instanceMethod yX12_begin ∈ BIG := bm (i := 1175) (by decide +kernel) rfl
theorem m_1 : Cond.selects RX12 yX12_begin yX12_begin ∈ BIG := bm (i := 1) (by decide +kernel) rfl
theorem m_1176 : Cond.code yX12_begin cX12_begin 2 none ∈ BIG := bm (i := 1176) (by decide +kernel) rfl
theorem m_1189 : Cond.methodLink RX12 143 yX12_noPiece ∈ BIG := bm (i := 1189) (by decide +kernel) rfl
theorem m_1191 : Cond.instanceMethod yX12_noPiece ∈ BIG := bm (i := 1191) (by decide +kernel) rfl
theorem m_3 : Cond.selects RX12 yX12_noPiece yX12_noPiece ∈ BIG := bm (i := 3) (by decide +kernel) rfl
theorem m_1192 : Cond.code yX12_noPiece cX12_noPiece 2 (some .boolean) ∈ BIG := bm (i := 1192) (by decide +kernel) rfl
theorem m_1201 : Cond.methodLink RX12 151 yX12_weightOf ∈ BIG := bm (i := 1201) (by decide +kernel) rfl
theorem m_1203 : Cond.instanceMethod yX12_weightOf ∈ BIG := bm (i := 1203) (by decide +kernel) rfl
theorem m_6 : Cond.selects RX12 yX12_weightOf yX12_weightOf ∈ BIG := bm (i := 6) (by decide +kernel) rfl
theorem m_1204 : Cond.code yX12_weightOf cX12_weightOf 9 (some .int) ∈ BIG := bm (i := 1204) (by decide +kernel) rfl
theorem m_1197 : Cond.methodLink RX12 165 yX12_offAhead ∈ BIG := bm (i := 1197) (by decide +kernel) rfl
theorem m_1199 : Cond.instanceMethod yX12_offAhead ∈ BIG := bm (i := 1199) (by decide +kernel) rfl
theorem m_5 : Cond.selects RX12 yX12_offAhead yX12_offAhead ∈ BIG := bm (i := 5) (by decide +kernel) rfl
theorem m_1200 : Cond.code yX12_offAhead cX12_offAhead 6 (some .int) ∈ BIG := bm (i := 1200) (by decide +kernel) rfl
theorem m_1205 : Cond.methodLink RX12 161 yX12_driedAhead ∈ BIG := bm (i := 1205) (by decide +kernel) rfl
theorem m_1207 : Cond.instanceMethod yX12_driedAhead ∈ BIG := bm (i := 1207) (by decide +kernel) rfl
theorem m_7 : Cond.selects RX12 yX12_driedAhead yX12_driedAhead ∈ BIG := bm (i := 7) (by decide +kernel) rfl
theorem m_1208 : Cond.code yX12_driedAhead cX12_driedAhead 5 (some .int) ∈ BIG := bm (i := 1208) (by decide +kernel) rfl
theorem m_1185 : Cond.methodLink RX12 179 yX12_noStand ∈ BIG := bm (i := 1185) (by decide +kernel) rfl
theorem m_1187 : Cond.instanceMethod yX12_noStand ∈ BIG := bm (i := 1187) (by decide +kernel) rfl
theorem m_2 : Cond.selects RX12 yX12_noStand yX12_noStand ∈ BIG := bm (i := 2) (by decide +kernel) rfl
theorem m_1188 : Cond.code yX12_noStand cX12_noStand 2 (some .boolean) ∈ BIG := bm (i := 1188) (by decide +kernel) rfl
theorem m_1193 : Cond.methodLink RX12 182 yX12_makeCut ∈ BIG := bm (i := 1193) (by decide +kernel) rfl
theorem m_1195 : Cond.instanceMethod yX12_makeCut ∈ BIG := bm (i := 1195) (by decide +kernel) rfl
theorem m_4 : Cond.selects RX12 yX12_makeCut yX12_makeCut ∈ BIG := bm (i := 4) (by decide +kernel) rfl
theorem m_1196 : Cond.code yX12_makeCut cX12_makeCut 9 (some .int) ∈ BIG := bm (i := 1196) (by decide +kernel) rfl
theorem m_1221 : Cond.methodLink RX12 147 yX12_face ∈ BIG := bm (i := 1221) (by decide +kernel) rfl
theorem m_1223 : Cond.instanceMethod yX12_face ∈ BIG := bm (i := 1223) (by decide +kernel) rfl
theorem m_10 : Cond.selects RX12 yX12_face yX12_face ∈ BIG := bm (i := 10) (by decide +kernel) rfl
theorem m_1224 : Cond.code yX12_face cX12_face 4 (some .int) ∈ BIG := bm (i := 1224) (by decide +kernel) rfl
theorem m_1213 : Cond.methodLink RX12 172 yX12_countOf ∈ BIG := bm (i := 1213) (by decide +kernel) rfl
theorem m_1215 : Cond.instanceMethod yX12_countOf ∈ BIG := bm (i := 1215) (by decide +kernel) rfl
theorem m_8 : Cond.selects RX12 yX12_countOf yX12_countOf ∈ BIG := bm (i := 8) (by decide +kernel) rfl
theorem m_1216 : Cond.code yX12_countOf cX12_countOf 9 (some .int) ∈ BIG := bm (i := 1216) (by decide +kernel) rfl
theorem m_1217 : Cond.methodLink RX12 185 yX12_edges ∈ BIG := bm (i := 1217) (by decide +kernel) rfl
theorem m_1219 : Cond.instanceMethod yX12_edges ∈ BIG := bm (i := 1219) (by decide +kernel) rfl
theorem m_9 : Cond.selects RX12 yX12_edges yX12_edges ∈ BIG := bm (i := 9) (by decide +kernel) rfl
theorem m_1220 : Cond.code yX12_edges cX12_edges 4 (some .int) ∈ BIG := bm (i := 1220) (by decide +kernel) rfl
theorem m_1225 : Cond.methodLink RX12 155 yX12_allDried ∈ BIG := bm (i := 1225) (by decide +kernel) rfl
theorem m_1227 : Cond.instanceMethod yX12_allDried ∈ BIG := bm (i := 1227) (by decide +kernel) rfl
theorem m_11 : Cond.selects RX12 yX12_allDried yX12_allDried ∈ BIG := bm (i := 11) (by decide +kernel) rfl
theorem m_1228 : Cond.code yX12_allDried cX12_allDried 4 (some .int) ∈ BIG := bm (i := 1228) (by decide +kernel) rfl
theorem m_1229 : Cond.methodLink RX12 188 yX12_isEnd ∈ BIG := bm (i := 1229) (by decide +kernel) rfl
theorem m_1231 : Cond.instanceMethod yX12_isEnd ∈ BIG := bm (i := 1231) (by decide +kernel) rfl
theorem m_12 : Cond.selects RX12 yX12_isEnd yX12_isEnd ∈ BIG := bm (i := 12) (by decide +kernel) rfl
theorem m_1232 : Cond.code yX12_isEnd cX12_isEnd 4 (some .boolean) ∈ BIG := bm (i := 1232) (by decide +kernel) rfl
theorem m_1241 : Cond.methodLink RX12 158 yX12_more ∈ BIG := bm (i := 1241) (by decide +kernel) rfl
theorem m_1242 : Cond.static yX12_more ∈ BIG := bm (i := 1242) (by decide +kernel) rfl
theorem m_1243 : Cond.code yX12_more cX12_more 1 (some .int) ∈ BIG := bm (i := 1243) (by decide +kernel) rfl
theorem m_1237 : Cond.methodLink RX12 191 yX12_weighsOf ∈ BIG := bm (i := 1237) (by decide +kernel) rfl
theorem m_1239 : Cond.instanceMethod yX12_weighsOf ∈ BIG := bm (i := 1239) (by decide +kernel) rfl
theorem m_13 : Cond.selects RX12 yX12_weighsOf yX12_weighsOf ∈ BIG := bm (i := 13) (by decide +kernel) rfl
theorem m_1240 : Cond.code yX12_weighsOf cX12_weighsOf 2 (some .int) ∈ BIG := bm (i := 1240) (by decide +kernel) rfl
theorem m_1248 : Cond.constantLong RX12 194 (999) ∈ BIG := bm (i := 1248) (by decide +kernel) rfl
theorem m_1253 : Cond.constantLong RX12 196 (2) ∈ BIG := bm (i := 1253) (by decide +kernel) rfl
theorem m_1269 : Cond.constantLong RX12 198 (360) ∈ BIG := bm (i := 1269) (by decide +kernel) rfl
theorem m_1270 : Cond.constantLong RX12 200 (99) ∈ BIG := bm (i := 1270) (by decide +kernel) rfl
theorem m_1271 : Cond.constantLong RX12 202 (36) ∈ BIG := bm (i := 1271) (by decide +kernel) rfl
theorem m_1266 : Cond.methodLink RX12 204 yX12_noAsk ∈ BIG := bm (i := 1266) (by decide +kernel) rfl
theorem m_1267 : Cond.static yX12_noAsk ∈ BIG := bm (i := 1267) (by decide +kernel) rfl
theorem m_1268 : Cond.code yX12_noAsk cX12_noAsk 3 (some .boolean) ∈ BIG := bm (i := 1268) (by decide +kernel) rfl
theorem m_1272 : Cond.methodLink RX12 208 yX12_isServed ∈ BIG := bm (i := 1272) (by decide +kernel) rfl
theorem m_1274 : Cond.instanceMethod yX12_isServed ∈ BIG := bm (i := 1274) (by decide +kernel) rfl
theorem m_14 : Cond.selects RX12 yX12_isServed yX12_isServed ∈ BIG := bm (i := 14) (by decide +kernel) rfl
theorem m_1275 : Cond.code yX12_isServed cX12_isServed 5 (some .boolean) ∈ BIG := bm (i := 1275) (by decide +kernel) rfl
theorem m_1280 : Cond.methodLink RX12 212 yX12_standsFor ∈ BIG := bm (i := 1280) (by decide +kernel) rfl
theorem m_1282 : Cond.instanceMethod yX12_standsFor ∈ BIG := bm (i := 1282) (by decide +kernel) rfl
theorem m_15 : Cond.selects RX12 yX12_standsFor yX12_standsFor ∈ BIG := bm (i := 15) (by decide +kernel) rfl
theorem m_1283 : Cond.code yX12_standsFor cX12_standsFor 7 (some .int) ∈ BIG := bm (i := 1283) (by decide +kernel) rfl
theorem m_1025 : Cond.fieldLink RX12 169 "WheelAndWireModel" "partWeight" "I" ∈ BIG := bm (i := 1025) (by decide +kernel) rfl
theorem m_1026 : Cond.fieldLink RX12 176 "WheelAndWireModel" "partRind" "I" ∈ BIG := bm (i := 1026) (by decide +kernel) rfl
theorem m_1297 : Cond.methodLink RX12 216 yX12_layPart ∈ BIG := bm (i := 1297) (by decide +kernel) rfl
theorem m_1299 : Cond.instanceMethod yX12_layPart ∈ BIG := bm (i := 1299) (by decide +kernel) rfl
theorem m_18 : Cond.selects RX12 yX12_layPart yX12_layPart ∈ BIG := bm (i := 18) (by decide +kernel) rfl
theorem m_1300 : Cond.code yX12_layPart cX12_layPart 13 none ∈ BIG := bm (i := 1300) (by decide +kernel) rfl
theorem m_1027 : Cond.fieldLink RX12 220 "WheelAndWireModel" "cutFound" "I" ∈ BIG := bm (i := 1027) (by decide +kernel) rfl
theorem m_1292 : Cond.constant RX12 223 (1000000) ∈ BIG := bm (i := 1292) (by decide +kernel) rfl
theorem m_1028 : Cond.fieldLink RX12 224 "WheelAndWireModel" "cutEdges" "I" ∈ BIG := bm (i := 1028) (by decide +kernel) rfl
theorem m_1293 : Cond.methodLink RX12 227 yX12_isPart ∈ BIG := bm (i := 1293) (by decide +kernel) rfl
theorem m_1295 : Cond.instanceMethod yX12_isPart ∈ BIG := bm (i := 1295) (by decide +kernel) rfl
theorem m_17 : Cond.selects RX12 yX12_isPart yX12_isPart ∈ BIG := bm (i := 17) (by decide +kernel) rfl
theorem m_1296 : Cond.code yX12_isPart cX12_isPart 8 (some .boolean) ∈ BIG := bm (i := 1296) (by decide +kernel) rfl
theorem m_1288 : Cond.methodLink RX12 231 yX12_findCut ∈ BIG := bm (i := 1288) (by decide +kernel) rfl
theorem m_1290 : Cond.instanceMethod yX12_findCut ∈ BIG := bm (i := 1290) (by decide +kernel) rfl
theorem m_16 : Cond.selects RX12 yX12_findCut yX12_findCut ∈ BIG := bm (i := 16) (by decide +kernel) rfl
theorem m_1291 : Cond.code yX12_findCut cX12_findCut 10 none ∈ BIG := bm (i := 1291) (by decide +kernel) rfl
theorem m_1305 : Cond.methodLink RX12 235 yX12_make ∈ BIG := bm (i := 1305) (by decide +kernel) rfl
theorem m_1307 : Cond.instanceMethod yX12_make ∈ BIG := bm (i := 1307) (by decide +kernel) rfl
theorem m_19 : Cond.selects RX12 yX12_make yX12_make ∈ BIG := bm (i := 19) (by decide +kernel) rfl
theorem m_1308 : Cond.code yX12_make cX12_make 5 (some .int) ∈ BIG := bm (i := 1308) (by decide +kernel) rfl
theorem m_1022 : Cond.fieldLink RX12 56 "WheelAndWireModel" "aside" "[I" ∈ BIG := bm (i := 1022) (by decide +kernel) rfl
theorem m_1048 : Cond.fieldLink RX12 238 "WheelAndWireModel" "twoEdges" "I" ∈ BIG := bm (i := 1048) (by decide +kernel) rfl
theorem m_1049 : Cond.fieldLink RX12 241 "WheelAndWireModel" "twoFound" "I" ∈ BIG := bm (i := 1049) (by decide +kernel) rfl
theorem m_1317 : Cond.methodLink RX12 244 yX12_putAside ∈ BIG := bm (i := 1317) (by decide +kernel) rfl
theorem m_1319 : Cond.instanceMethod yX12_putAside ∈ BIG := bm (i := 1319) (by decide +kernel) rfl
theorem m_21 : Cond.selects RX12 yX12_putAside yX12_putAside ∈ BIG := bm (i := 21) (by decide +kernel) rfl
theorem m_1320 : Cond.code yX12_putAside cX12_putAside 4 none ∈ BIG := bm (i := 1320) (by decide +kernel) rfl
theorem m_1321 : Cond.methodLink RX12 247 yX12_second ∈ BIG := bm (i := 1321) (by decide +kernel) rfl
theorem m_1323 : Cond.instanceMethod yX12_second ∈ BIG := bm (i := 1323) (by decide +kernel) rfl
theorem m_22 : Cond.selects RX12 yX12_second yX12_second ∈ BIG := bm (i := 22) (by decide +kernel) rfl
theorem m_1324 : Cond.code yX12_second cX12_second 4 (some .int) ∈ BIG := bm (i := 1324) (by decide +kernel) rfl
theorem m_1325 : Cond.methodLink RX12 250 yX12_keepTwo ∈ BIG := bm (i := 1325) (by decide +kernel) rfl
theorem m_1327 : Cond.instanceMethod yX12_keepTwo ∈ BIG := bm (i := 1327) (by decide +kernel) rfl
theorem m_23 : Cond.selects RX12 yX12_keepTwo yX12_keepTwo ∈ BIG := bm (i := 23) (by decide +kernel) rfl
theorem m_1328 : Cond.code yX12_keepTwo cX12_keepTwo 3 none ∈ BIG := bm (i := 1328) (by decide +kernel) rfl
theorem m_1329 : Cond.methodLink RX12 254 yX12_takeBack ∈ BIG := bm (i := 1329) (by decide +kernel) rfl
theorem m_1331 : Cond.instanceMethod yX12_takeBack ∈ BIG := bm (i := 1331) (by decide +kernel) rfl
theorem m_24 : Cond.selects RX12 yX12_takeBack yX12_takeBack ∈ BIG := bm (i := 24) (by decide +kernel) rfl
theorem m_1332 : Cond.code yX12_takeBack cX12_takeBack 4 none ∈ BIG := bm (i := 1332) (by decide +kernel) rfl
theorem m_1333 : Cond.constant RX12 257 (100000) ∈ BIG := bm (i := 1333) (by decide +kernel) rfl
theorem m_1313 : Cond.methodLink RX12 258 yX12_findTwo ∈ BIG := bm (i := 1313) (by decide +kernel) rfl
theorem m_1315 : Cond.instanceMethod yX12_findTwo ∈ BIG := bm (i := 1315) (by decide +kernel) rfl
theorem m_20 : Cond.selects RX12 yX12_findTwo yX12_findTwo ∈ BIG := bm (i := 20) (by decide +kernel) rfl
theorem m_1316 : Cond.code yX12_findTwo cX12_findTwo 12 none ∈ BIG := bm (i := 1316) (by decide +kernel) rfl
theorem m_1029 : Cond.fieldLink RX12 262 "WheelAndWireModel" "orders" "I" ∈ BIG := bm (i := 1029) (by decide +kernel) rfl
theorem m_1030 : Cond.fieldLink RX12 66 "WheelAndWireModel" "askA" "[I" ∈ BIG := bm (i := 1030) (by decide +kernel) rfl
theorem m_1031 : Cond.fieldLink RX12 69 "WheelAndWireModel" "askO" "[I" ∈ BIG := bm (i := 1031) (by decide +kernel) rfl
theorem m_1032 : Cond.fieldLink RX12 72 "WheelAndWireModel" "askR" "[I" ∈ BIG := bm (i := 1032) (by decide +kernel) rfl
theorem m_1033 : Cond.fieldLink RX12 75 "WheelAndWireModel" "weights" "[I" ∈ BIG := bm (i := 1033) (by decide +kernel) rfl
theorem m_1362 : Cond.methodLink RX12 265 yX12_block ∈ BIG := bm (i := 1362) (by decide +kernel) rfl
theorem m_1363 : Cond.static yX12_block ∈ BIG := bm (i := 1363) (by decide +kernel) rfl
theorem m_1364 : Cond.code yX12_block cX12_block 4 (some .int) ∈ BIG := bm (i := 1364) (by decide +kernel) rfl
theorem m_1034 : Cond.fieldLink RX12 78 "WheelAndWireModel" "rinds" "[I" ∈ BIG := bm (i := 1034) (by decide +kernel) rfl
theorem m_1037 : Cond.fieldLink RX12 268 "WheelAndWireModel" "firstCut" "I" ∈ BIG := bm (i := 1037) (by decide +kernel) rfl
theorem m_1035 : Cond.fieldLink RX12 81 "WheelAndWireModel" "wires" "[I" ∈ BIG := bm (i := 1035) (by decide +kernel) rfl
theorem m_1358 : Cond.methodLink RX12 271 yX12_layBlocks ∈ BIG := bm (i := 1358) (by decide +kernel) rfl
theorem m_1360 : Cond.instanceMethod yX12_layBlocks ∈ BIG := bm (i := 1360) (by decide +kernel) rfl
theorem m_27 : Cond.selects RX12 yX12_layBlocks yX12_layBlocks ∈ BIG := bm (i := 27) (by decide +kernel) rfl
theorem m_1361 : Cond.code yX12_layBlocks cX12_layBlocks 5 none ∈ BIG := bm (i := 1361) (by decide +kernel) rfl
theorem m_1369 : Cond.methodLink RX12 278 yX12_bestWire ∈ BIG := bm (i := 1369) (by decide +kernel) rfl
theorem m_1371 : Cond.instanceMethod yX12_bestWire ∈ BIG := bm (i := 1371) (by decide +kernel) rfl
theorem m_29 : Cond.selects RX12 yX12_bestWire yX12_bestWire ∈ BIG := bm (i := 29) (by decide +kernel) rfl
theorem m_1372 : Cond.code yX12_bestWire cX12_bestWire 13 (some .int) ∈ BIG := bm (i := 1372) (by decide +kernel) rfl
theorem m_1365 : Cond.methodLink RX12 274 yX12_isAsk ∈ BIG := bm (i := 1365) (by decide +kernel) rfl
theorem m_1367 : Cond.instanceMethod yX12_isAsk ∈ BIG := bm (i := 1367) (by decide +kernel) rfl
theorem m_28 : Cond.selects RX12 yX12_isAsk yX12_isAsk ∈ BIG := bm (i := 28) (by decide +kernel) rfl
theorem m_1368 : Cond.code yX12_isAsk cX12_isAsk 3 (some .boolean) ∈ BIG := bm (i := 1368) (by decide +kernel) rfl
theorem m_1354 : Cond.methodLink RX12 281 yX12_layWires ∈ BIG := bm (i := 1354) (by decide +kernel) rfl
theorem m_1356 : Cond.instanceMethod yX12_layWires ∈ BIG := bm (i := 1356) (by decide +kernel) rfl
theorem m_26 : Cond.selects RX12 yX12_layWires yX12_layWires ∈ BIG := bm (i := 26) (by decide +kernel) rfl
theorem m_1357 : Cond.code yX12_layWires cX12_layWires 8 none ∈ BIG := bm (i := 1357) (by decide +kernel) rfl
theorem m_1350 : Cond.methodLink RX12 284 yX12_wholeWire ∈ BIG := bm (i := 1350) (by decide +kernel) rfl
theorem m_1352 : Cond.instanceMethod yX12_wholeWire ∈ BIG := bm (i := 1352) (by decide +kernel) rfl
theorem m_25 : Cond.selects RX12 yX12_wholeWire yX12_wholeWire ∈ BIG := bm (i := 25) (by decide +kernel) rfl
theorem m_1353 : Cond.code yX12_wholeWire cX12_wholeWire 1 (some .int) ∈ BIG := bm (i := 1353) (by decide +kernel) rfl
theorem m_1039 : Cond.fieldLink RX12 87 "WheelAndWireModel" "leftBlock" "[I" ∈ BIG := bm (i := 1039) (by decide +kernel) rfl
theorem m_1389 : Cond.methodLink RX12 298 yX12_meets ∈ BIG := bm (i := 1389) (by decide +kernel) rfl
theorem m_1390 : Cond.static yX12_meets ∈ BIG := bm (i := 1390) (by decide +kernel) rfl
theorem m_1391 : Cond.code yX12_meets cX12_meets 3 (some .boolean) ∈ BIG := bm (i := 1391) (by decide +kernel) rfl
theorem m_1036 : Cond.fieldLink RX12 84 "WheelAndWireModel" "least" "[I" ∈ BIG := bm (i := 1036) (by decide +kernel) rfl
theorem m_1385 : Cond.methodLink RX12 287 yX12_goesThrough ∈ BIG := bm (i := 1385) (by decide +kernel) rfl
theorem m_1387 : Cond.instanceMethod yX12_goesThrough ∈ BIG := bm (i := 1387) (by decide +kernel) rfl
theorem m_31 : Cond.selects RX12 yX12_goesThrough yX12_goesThrough ∈ BIG := bm (i := 31) (by decide +kernel) rfl
theorem m_1388 : Cond.code yX12_goesThrough cX12_goesThrough 11 (some .boolean) ∈ BIG := bm (i := 1388) (by decide +kernel) rfl
theorem m_1381 : Cond.methodLink RX12 291 yX12_bestOf ∈ BIG := bm (i := 1381) (by decide +kernel) rfl
theorem m_1383 : Cond.instanceMethod yX12_bestOf ∈ BIG := bm (i := 1383) (by decide +kernel) rfl
theorem m_30 : Cond.selects RX12 yX12_bestOf yX12_bestOf ∈ BIG := bm (i := 30) (by decide +kernel) rfl
theorem m_1384 : Cond.code yX12_bestOf cX12_bestOf 14 (some .int) ∈ BIG := bm (i := 1384) (by decide +kernel) rfl
theorem m_1396 : Cond.methodLink RX12 295 yX12_noBlock ∈ BIG := bm (i := 1396) (by decide +kernel) rfl
theorem m_1398 : Cond.instanceMethod yX12_noBlock ∈ BIG := bm (i := 1398) (by decide +kernel) rfl
theorem m_32 : Cond.selects RX12 yX12_noBlock yX12_noBlock ∈ BIG := bm (i := 32) (by decide +kernel) rfl
theorem m_1399 : Cond.code yX12_noBlock cX12_noBlock 6 (some .boolean) ∈ BIG := bm (i := 1399) (by decide +kernel) rfl
theorem m_1412 : Cond.constantLong RX12 301 (30) ∈ BIG := bm (i := 1412) (by decide +kernel) rfl
theorem m_1040 : Cond.fieldLink RX12 90 "WheelAndWireModel" "ripeFrom" "I" ∈ BIG := bm (i := 1040) (by decide +kernel) rfl
theorem m_1041 : Cond.fieldLink RX12 93 "WheelAndWireModel" "ripeLong" "I" ∈ BIG := bm (i := 1041) (by decide +kernel) rfl
theorem m_1431 : Cond.methodLink RX12 303 yX12_lesser ∈ BIG := bm (i := 1431) (by decide +kernel) rfl
theorem m_1432 : Cond.static yX12_lesser ∈ BIG := bm (i := 1432) (by decide +kernel) rfl
theorem m_1433 : Cond.code yX12_lesser cX12_lesser 2 (some .int) ∈ BIG := bm (i := 1433) (by decide +kernel) rfl
theorem m_1427 : Cond.methodLink RX12 306 yX12_isRipe ∈ BIG := bm (i := 1427) (by decide +kernel) rfl
theorem m_1429 : Cond.instanceMethod yX12_isRipe ∈ BIG := bm (i := 1429) (by decide +kernel) rfl
theorem m_35 : Cond.selects RX12 yX12_isRipe yX12_isRipe ∈ BIG := bm (i := 35) (by decide +kernel) rfl
theorem m_1430 : Cond.code yX12_isRipe cX12_isRipe 6 (some .boolean) ∈ BIG := bm (i := 1430) (by decide +kernel) rfl
theorem m_1419 : Cond.methodLink RX12 313 yX12_paste ∈ BIG := bm (i := 1419) (by decide +kernel) rfl
theorem m_1421 : Cond.instanceMethod yX12_paste ∈ BIG := bm (i := 1421) (by decide +kernel) rfl
theorem m_33 : Cond.selects RX12 yX12_paste yX12_paste ∈ BIG := bm (i := 33) (by decide +kernel) rfl
theorem m_1422 : Cond.code yX12_paste cX12_paste 2 (some .int) ∈ BIG := bm (i := 1422) (by decide +kernel) rfl
theorem m_1423 : Cond.methodLink RX12 316 yX12_ripeIn ∈ BIG := bm (i := 1423) (by decide +kernel) rfl
theorem m_1425 : Cond.instanceMethod yX12_ripeIn ∈ BIG := bm (i := 1425) (by decide +kernel) rfl
theorem m_34 : Cond.selects RX12 yX12_ripeIn yX12_ripeIn ∈ BIG := bm (i := 34) (by decide +kernel) rfl
theorem m_1426 : Cond.code yX12_ripeIn cX12_ripeIn 6 (some .int) ∈ BIG := bm (i := 1426) (by decide +kernel) rfl
theorem m_1434 : Cond.methodLink RX12 319 yX12_common ∈ BIG := bm (i := 1434) (by decide +kernel) rfl
theorem m_1435 : Cond.static yX12_common ∈ BIG := bm (i := 1435) (by decide +kernel) rfl
theorem m_1436 : Cond.code yX12_common cX12_common 10 (some .long) ∈ BIG := bm (i := 1436) (by decide +kernel) rfl
theorem m_1418 : Cond.constantLong RX12 311 (-2) ∈ BIG := bm (i := 1418) (by decide +kernel) rfl
theorem m_1417 : Cond.constantLong RX12 309 (-1) ∈ BIG := bm (i := 1417) (by decide +kernel) rfl
theorem m_1042 : Cond.fieldLink RX12 323 "WheelAndWireModel" "bookMany" "I" ∈ BIG := bm (i := 1042) (by decide +kernel) rfl
theorem m_1043 : Cond.fieldLink RX12 96 "WheelAndWireModel" "book" "[I" ∈ BIG := bm (i := 1043) (by decide +kernel) rfl
theorem m_1449 : Cond.methodLink RX12 326 yX12_earns ∈ BIG := bm (i := 1449) (by decide +kernel) rfl
theorem m_1451 : Cond.instanceMethod yX12_earns ∈ BIG := bm (i := 1451) (by decide +kernel) rfl
theorem m_36 : Cond.selects RX12 yX12_earns yX12_earns ∈ BIG := bm (i := 36) (by decide +kernel) rfl
theorem m_1452 : Cond.code yX12_earns cX12_earns 4 (some .int) ∈ BIG := bm (i := 1452) (by decide +kernel) rfl
theorem m_1461 : Cond.constantLong RX12 329 (9) ∈ BIG := bm (i := 1461) (by decide +kernel) rfl
theorem m_1044 : Cond.fieldLink RX12 99 "WheelAndWireModel" "there" "[I" ∈ BIG := bm (i := 1044) (by decide +kernel) rfl
theorem m_1045 : Cond.fieldLink RX12 102 "WheelAndWireModel" "bought" "[I" ∈ BIG := bm (i := 1045) (by decide +kernel) rfl
theorem m_1466 : Cond.methodLink RX12 331 yX12_gain ∈ BIG := bm (i := 1466) (by decide +kernel) rfl
theorem m_1468 : Cond.instanceMethod yX12_gain ∈ BIG := bm (i := 1468) (by decide +kernel) rfl
theorem m_37 : Cond.selects RX12 yX12_gain yX12_gain ∈ BIG := bm (i := 37) (by decide +kernel) rfl
theorem m_1469 : Cond.code yX12_gain cX12_gain 2 (some .int) ∈ BIG := bm (i := 1469) (by decide +kernel) rfl
theorem m_1470 : Cond.constantLong RX12 334 (1000000) ∈ BIG := bm (i := 1470) (by decide +kernel) rfl
theorem m_1046 : Cond.fieldLink RX12 105 "WheelAndWireModel" "price" "I" ∈ BIG := bm (i := 1046) (by decide +kernel) rfl
theorem m_1047 : Cond.fieldLink RX12 108 "WheelAndWireModel" "endPrice" "I" ∈ BIG := bm (i := 1047) (by decide +kernel) rfl
theorem m_1023 : Cond.fieldLink RX12 59 "WheelAndWireModel" "kept" "[I" ∈ BIG := bm (i := 1023) (by decide +kernel) rfl
theorem m_1487 : Cond.methodLink RX12 336 yX12_standing ∈ BIG := bm (i := 1487) (by decide +kernel) rfl
theorem m_1489 : Cond.instanceMethod yX12_standing ∈ BIG := bm (i := 1489) (by decide +kernel) rfl
theorem m_38 : Cond.selects RX12 yX12_standing yX12_standing ∈ BIG := bm (i := 38) (by decide +kernel) rfl
theorem m_1490 : Cond.code yX12_standing cX12_standing 3 (some .int) ∈ BIG := bm (i := 1490) (by decide +kernel) rfl
theorem iX10 : ∀ w ∈ u_ws RX10 TX10 2, w ∈ BIG := bms [73, 75] (by decide +kernel) (by decide +kernel)
theorem fl_X10_15_10 : fL RX10 15 10 1 := ⟨RX10, TX10, 2, "WheelAndWire$Text", rfl, rfl, by decide, by decide, m_71, Or.inl rfl, iX10⟩
theorem fl_X10_9_10 : fL RX10 9 10 0 := ⟨RX10, TX10, 2, "WheelAndWire$Text", rfl, rfl, by decide, by decide, m_68, Or.inl rfl, iX10⟩
theorem fp_10_1 (o : String) : fP 10 1 false o .int := ⟨RX10, TX10, 2, tyX10, rfl, tyX10_ok, nmX10, rfl, fun e => Bool.noConfusion e, rfl⟩
theorem iX11 : ∀ w ∈ u_ws RX11 TX11 11, w ∈ BIG := bms [400, 402, 404, 406, 408, 410, 412, 414, 416, 418, 420] (by decide +kernel) (by decide +kernel)
theorem fl_X11_12_11 : fL RX11 12 11 0 := ⟨RX11, TX11, 11, "WheelAndWire", rfl, rfl, by decide, by decide, m_389, Or.inl rfl, iX11⟩
theorem fl_X11_80_10 : fL RX11 80 10 1 := ⟨RX10, TX10, 2, "WheelAndWire$Text", rfl, rfl, by decide, by decide, m_72, Or.inl rfl, iX10⟩
theorem vw_X11_83 : vW RX11 83 10 yX10_append cX10_append 5 none 2 := ⟨⟨_, rfl, by decide, rfl⟩, m_427, m_428, m_429, m_41, m_430, ⟨by decide +kernel, by decide +kernel, by decide +kernel⟩⟩
theorem nw_X10_19 : nW RX10 19 yX11_kindOf cX11_kindOf 1 (some .int) 1 (.static yX11_kindOf) := ⟨"WheelAndWire", by decide +kernel, m_444, m_40, m_445, ⟨by decide +kernel, by decide +kernel, by decide +kernel⟩⟩
theorem vw_X11_87 : vW RX11 87 10 yX10_firstFault cX10_firstFault 5 (some .int) 0 := ⟨⟨_, rfl, by decide, rfl⟩, m_439, m_440, m_441, m_41, m_442, ⟨by decide +kernel, by decide +kernel, by decide +kernel⟩⟩
theorem iX4 : ∀ w ∈ u_ws RX4 TX4 7, w ∈ BIG := bms [117, 119, 121, 123, 125, 127, 129] (by decide +kernel) (by decide +kernel)
theorem fl_X4_9_4 : fL RX4 9 4 0 := ⟨RX4, TX4, 7, "WheelAndWire$Form", rfl, rfl, by decide, by decide, m_98, Or.inl rfl, iX4⟩
theorem fl_X4_21_4 : fL RX4 21 4 3 := ⟨RX4, TX4, 7, "WheelAndWire$Form", rfl, rfl, by decide, by decide, m_101, Or.inl rfl, iX4⟩
theorem fl_X4_25_4 : fL RX4 25 4 4 := ⟨RX4, TX4, 7, "WheelAndWire$Form", rfl, rfl, by decide, by decide, m_107, Or.inl rfl, iX4⟩
theorem vw_X4_49 : vW RX4 49 4 yX4_kindAt cX4_kindAt 4 (some .int) 2 := ⟨⟨_, rfl, by decide, rfl⟩, m_89, m_90, m_91, m_42, m_92, ⟨by decide +kernel, by decide +kernel, by decide +kernel⟩⟩
theorem fl_X4_15_4 : fL RX4 15 4 1 := ⟨RX4, TX4, 7, "WheelAndWire$Form", rfl, rfl, by decide, by decide, m_99, Or.inl rfl, iX4⟩
theorem sw_X4_56 : sW RX4 56 yX4_addPlace cX4_addPlace 5 none 4 := ⟨rfl, m_95, m_96, m_42, m_97, ⟨by decide +kernel, by decide +kernel, by decide +kernel⟩⟩
theorem fl_X4_18_4 : fL RX4 18 4 2 := ⟨RX4, TX4, 7, "WheelAndWire$Form", rfl, rfl, by decide, by decide, m_100, Or.inl rfl, iX4⟩
theorem fl_X4_37_10 : fL RX4 37 10 1 := ⟨RX10, TX10, 2, "WheelAndWire$Text", rfl, rfl, by decide, by decide, m_70, Or.inl rfl, iX10⟩
theorem fl_X4_42_10 : fL RX4 42 10 0 := ⟨RX10, TX10, 2, "WheelAndWire$Text", rfl, rfl, by decide, by decide, m_69, Or.inl rfl, iX10⟩
theorem nw_X4_45 : nW RX4 45 yX11_kindOf cX11_kindOf 1 (some .int) 1 (.static yX11_kindOf) := ⟨"WheelAndWire", by decide +kernel, m_444, m_40, m_445, ⟨by decide +kernel, by decide +kernel, by decide +kernel⟩⟩
theorem fp_4_3 (o : String) : fP 4 3 false o .int := ⟨RX4, TX4, 7, tyX4, rfl, tyX4_ok, nmX4, rfl, fun e => Bool.noConfusion e, rfl⟩
theorem fp_4_4 (o : String) : fP 4 4 false o .int := ⟨RX4, TX4, 7, tyX4, rfl, tyX4_ok, nmX4, rfl, fun e => Bool.noConfusion e, rfl⟩
theorem vw_X4_34 : vW RX4 34 4 yX4_addUp cX4_addUp 4 none 0 := ⟨⟨_, rfl, by decide, rfl⟩, m_85, m_86, m_87, m_42, m_88, ⟨by decide +kernel, by decide +kernel, by decide +kernel⟩⟩
theorem vw_X4_60 : vW RX4 60 4 yX4_sumIn cX4_sumIn 8 (some .int) 5 := ⟨⟨_, rfl, by decide, rfl⟩, m_206, m_207, m_208, m_42, m_209, ⟨by decide +kernel, by decide +kernel, by decide +kernel⟩⟩
theorem iX7 : ∀ w ∈ u_ws RX7 TX7 13, w ∈ BIG := bms [167, 169, 171, 173, 175, 177, 179, 181, 183, 185, 187, 189, 191] (by decide +kernel) (by decide +kernel)
theorem fl_X7_53_7 : fL RX7 53 7 9 := ⟨RX7, TX7, 13, "WheelAndWire$Piece", rfl, rfl, by decide, by decide, m_163, Or.inl rfl, iX7⟩
theorem fp_7_9 (o : String) : fP 7 9 false o .int := ⟨RX7, TX7, 13, tyX7, rfl, tyX7_ok, nmX7, rfl, fun e => Bool.noConfusion e, rfl⟩
theorem fl_X7_56_7 : fL RX7 56 7 10 := ⟨RX7, TX7, 13, "WheelAndWire$Piece", rfl, rfl, by decide, by decide, m_164, Or.inl rfl, iX7⟩
theorem fp_7_10 (o : String) : fP 7 10 false o .int := ⟨RX7, TX7, 13, tyX7, rfl, tyX7_ok, nmX7, rfl, fun e => Bool.noConfusion e, rfl⟩
theorem fl_X7_59_7 : fL RX7 59 7 11 := ⟨RX7, TX7, 13, "WheelAndWire$Piece", rfl, rfl, by decide, by decide, m_165, Or.inl rfl, iX7⟩
theorem fp_7_11 (o : String) : fP 7 11 false o .int := ⟨RX7, TX7, 13, tyX7, rfl, tyX7_ok, nmX7, rfl, fun e => Bool.noConfusion e, rfl⟩
theorem fl_X7_62_7 : fL RX7 62 7 12 := ⟨RX7, TX7, 13, "WheelAndWire$Piece", rfl, rfl, by decide, by decide, m_166, Or.inl rfl, iX7⟩
theorem fp_7_12 (o : String) : fP 7 12 false o .int := ⟨RX7, TX7, 13, tyX7, rfl, tyX7_ok, nmX7, rfl, fun e => Bool.noConfusion e, rfl⟩
theorem fl_X7_9_7 : fL RX7 9 7 0 := ⟨RX7, TX7, 13, "WheelAndWire$Piece", rfl, rfl, by decide, by decide, m_145, Or.inl rfl, iX7⟩
theorem fp_7_0 (o : String) : fP 7 0 false o .int := ⟨RX7, TX7, 13, tyX7, rfl, tyX7_ok, nmX7, rfl, fun e => Bool.noConfusion e, rfl⟩
theorem fl_X7_15_7 : fL RX7 15 7 1 := ⟨RX7, TX7, 13, "WheelAndWire$Piece", rfl, rfl, by decide, by decide, m_146, Or.inl rfl, iX7⟩
theorem fp_7_1 (o : String) : fP 7 1 false o .int := ⟨RX7, TX7, 13, tyX7, rfl, tyX7_ok, nmX7, rfl, fun e => Bool.noConfusion e, rfl⟩
theorem fl_X7_18_4 : fL RX7 18 4 3 := ⟨RX4, TX4, 7, "WheelAndWire$Form", rfl, rfl, by decide, by decide, m_103, Or.inl rfl, iX4⟩
theorem fl_X7_23_7 : fL RX7 23 7 2 := ⟨RX7, TX7, 13, "WheelAndWire$Piece", rfl, rfl, by decide, by decide, m_147, Or.inl rfl, iX7⟩
theorem fp_7_2 (o : String) : fP 7 2 false o .int := ⟨RX7, TX7, 13, tyX7, rfl, tyX7_ok, nmX7, rfl, fun e => Bool.noConfusion e, rfl⟩
theorem fl_X7_24_4 : fL RX7 24 4 4 := ⟨RX4, TX4, 7, "WheelAndWire$Form", rfl, rfl, by decide, by decide, m_109, Or.inl rfl, iX4⟩
theorem fl_X7_27_7 : fL RX7 27 7 3 := ⟨RX7, TX7, 13, "WheelAndWire$Piece", rfl, rfl, by decide, by decide, m_149, Or.inl rfl, iX7⟩
theorem fp_7_3 (o : String) : fP 7 3 false o .int := ⟨RX7, TX7, 13, tyX7, rfl, tyX7_ok, nmX7, rfl, fun e => Bool.noConfusion e, rfl⟩
theorem vw_X7_28 : vW RX7 28 4 yX4_weightIn cX4_weightIn 5 (some .int) 4 := ⟨⟨_, rfl, by decide, rfl⟩, m_202, m_203, m_204, m_42, m_205, ⟨by decide +kernel, by decide +kernel, by decide +kernel⟩⟩
theorem fl_X7_32_7 : fL RX7 32 7 4 := ⟨RX7, TX7, 13, "WheelAndWire$Piece", rfl, rfl, by decide, by decide, m_151, Or.inl rfl, iX7⟩
theorem fp_7_4 (o : String) : fP 7 4 false o .int := ⟨RX7, TX7, 13, tyX7, rfl, tyX7_ok, nmX7, rfl, fun e => Bool.noConfusion e, rfl⟩
theorem vw_X7_35 : vW RX7 35 4 yX4_rindIn cX4_rindIn 5 (some .int) 4 := ⟨⟨_, rfl, by decide, rfl⟩, m_210, m_211, m_212, m_42, m_213, ⟨by decide +kernel, by decide +kernel, by decide +kernel⟩⟩
theorem fl_X7_38_7 : fL RX7 38 7 5 := ⟨RX7, TX7, 13, "WheelAndWire$Piece", rfl, rfl, by decide, by decide, m_152, Or.inl rfl, iX7⟩
theorem fp_7_5 (o : String) : fP 7 5 false o .int := ⟨RX7, TX7, 13, tyX7, rfl, tyX7_ok, nmX7, rfl, fun e => Bool.noConfusion e, rfl⟩
theorem fl_X7_41_7 : fL RX7 41 7 6 := ⟨RX7, TX7, 13, "WheelAndWire$Piece", rfl, rfl, by decide, by decide, m_155, Or.inl rfl, iX7⟩
theorem fp_7_6 (o : String) : fP 7 6 false o .int := ⟨RX7, TX7, 13, tyX7, rfl, tyX7_ok, nmX7, rfl, fun e => Bool.noConfusion e, rfl⟩
theorem fl_X7_44_7 : fL RX7 44 7 7 := ⟨RX7, TX7, 13, "WheelAndWire$Piece", rfl, rfl, by decide, by decide, m_159, Or.inl rfl, iX7⟩
theorem fp_7_7 (o : String) : fP 7 7 false o .int := ⟨RX7, TX7, 13, tyX7, rfl, tyX7_ok, nmX7, rfl, fun e => Bool.noConfusion e, rfl⟩
theorem fl_X7_47_7 : fL RX7 47 7 8 := ⟨RX7, TX7, 13, "WheelAndWire$Piece", rfl, rfl, by decide, by decide, m_161, Or.inl rfl, iX7⟩
theorem fp_7_8 (o : String) : fP 7 8 false o .int := ⟨RX7, TX7, 13, tyX7, rfl, tyX7_ok, nmX7, rfl, fun e => Bool.noConfusion e, rfl⟩
theorem vw_X7_50 : vW RX7 50 7 yX7_dryAnew cX7_dryAnew 1 none 0 := ⟨⟨_, rfl, by decide, rfl⟩, m_214, m_215, m_216, m_44, m_217, ⟨by decide +kernel, by decide +kernel, by decide +kernel⟩⟩
theorem iX1 : ∀ w ∈ u_ws RX1 TX1 6, w ∈ BIG := bms [229, 231, 233, 235, 237, 239] (by decide +kernel) (by decide +kernel)
theorem fl_X1_11_1 : fL RX1 11 1 1 := ⟨RX1, TX1, 6, "WheelAndWire$Board", rfl, rfl, by decide, by decide, m_219, Or.inl rfl, iX1⟩
theorem fl_X1_22_1 : fL RX1 22 1 0 := ⟨RX1, TX1, 6, "WheelAndWire$Board", rfl, rfl, by decide, by decide, m_218, Or.inl rfl, iX1⟩
theorem vw_X1_29 : vW RX1 29 7 yX7_becomeAll cX7_becomeAll 2 none 1 := ⟨⟨_, rfl, by decide, rfl⟩, m_198, m_199, m_200, m_44, m_201, ⟨by decide +kernel, by decide +kernel, by decide +kernel⟩⟩
theorem fl_X1_33_1 : fL RX1 33 1 3 := ⟨RX1, TX1, 6, "WheelAndWire$Board", rfl, rfl, by decide, by decide, m_224, Or.inl rfl, iX1⟩
theorem fp_1_3 (o : String) : fP 1 3 false o .int := ⟨RX1, TX1, 6, tyX1, rfl, tyX1_ok, nmX1, rfl, fun e => Bool.noConfusion e, rfl⟩
theorem fl_X1_37_1 : fL RX1 37 1 4 := ⟨RX1, TX1, 6, "WheelAndWire$Board", rfl, rfl, by decide, by decide, m_226, Or.inl rfl, iX1⟩
theorem fp_1_4 (o : String) : fP 1 4 false o .int := ⟨RX1, TX1, 6, tyX1, rfl, tyX1_ok, nmX1, rfl, fun e => Bool.noConfusion e, rfl⟩
theorem iX5 : ∀ w ∈ u_ws RX5 TX5 9, w ∈ BIG := bms [364, 365, 366, 352, 354, 356, 358, 360, 362] (by decide +kernel) (by decide +kernel)
theorem fl_X5_24_5 : fL RX5 24 5 7 := ⟨RX5, TX5, 9, "WheelAndWire$LeftPlan", rfl, rfl, by decide, by decide, m_349, Or.inl rfl, iX5⟩
theorem fp_5_7 (o : String) : fP 5 7 false o .int := ⟨RX5, TX5, 9, tyX5, rfl, tyX5_ok, nmX5, rfl, fun e => Bool.noConfusion e, rfl⟩
theorem fl_X5_28_5 : fL RX5 28 5 8 := ⟨RX5, TX5, 9, "WheelAndWire$LeftPlan", rfl, rfl, by decide, by decide, m_351, Or.inl rfl, iX5⟩
theorem fp_5_8 (o : String) : fP 5 8 false o .boolean := ⟨RX5, TX5, 9, tyX5, rfl, tyX5_ok, nmX5, rfl, fun e => Bool.noConfusion e, rfl⟩
theorem fl_X11_19_11 : fL RX11 19 11 1 := ⟨RX11, TX11, 11, "WheelAndWire", rfl, rfl, by decide, by decide, m_390, Or.inl rfl, iX11⟩
theorem vw_X11_91 : vW RX11 91 4 yX4_take cX4_take 5 none 1 := ⟨⟨_, rfl, by decide, rfl⟩, m_450, m_451, m_452, m_42, m_453, ⟨by decide +kernel, by decide +kernel, by decide +kernel⟩⟩
theorem fl_X11_28_11 : fL RX11 28 11 2 := ⟨RX11, TX11, 11, "WheelAndWire", rfl, rfl, by decide, by decide, m_391, Or.inl rfl, iX11⟩
theorem vw_X11_95 : vW RX11 95 1 yX1_startAnew cX1_startAnew 1 none 0 := ⟨⟨_, rfl, by decide, rfl⟩, m_455, m_195, m_196, m_43, m_197, ⟨by decide +kernel, by decide +kernel, by decide +kernel⟩⟩
theorem fl_X11_32_11 : fL RX11 32 11 3 := ⟨RX11, TX11, 11, "WheelAndWire", rfl, rfl, by decide, by decide, m_392, Or.inl rfl, iX11⟩
theorem fl_X11_98_1 : fL RX11 98 1 5 := ⟨RX1, TX1, 6, "WheelAndWire$Board", rfl, rfl, by decide, by decide, m_228, Or.inl rfl, iX1⟩
theorem fp_1_5 (o : String) : fP 1 5 false o .boolean := ⟨RX1, TX1, 6, tyX1, rfl, tyX1_ok, nmX1, rfl, fun e => Bool.noConfusion e, rfl⟩
theorem fl_X11_62_11 : fL RX11 62 11 7 := ⟨RX11, TX11, 11, "WheelAndWire", rfl, rfl, by decide, by decide, m_396, Or.inl rfl, iX11⟩
theorem vw_X11_102 : vW RX11 102 5 yX5_empty cX5_empty 1 none 0 := ⟨⟨_, rfl, by decide, rfl⟩, m_456, m_457, m_458, m_50, m_459, ⟨by decide +kernel, by decide +kernel, by decide +kernel⟩⟩
theorem fl_X11_48_11 : fL RX11 48 11 5 := ⟨RX11, TX11, 11, "WheelAndWire", rfl, rfl, by decide, by decide, m_394, Or.inl rfl, iX11⟩
theorem iX6 : ∀ w ∈ u_ws RX6 TX6 7, w ∈ BIG := bms [316, 318, 320, 308, 310, 312, 314] (by decide +kernel) (by decide +kernel)
theorem fl_X11_105_6 : fL RX11 105 6 6 := ⟨RX6, TX6, 7, "WheelAndWire$OrderPlan", rfl, rfl, by decide, by decide, m_300, Or.inl rfl, iX6⟩
theorem fp_6_6 (o : String) : fP 6 6 false o .boolean := ⟨RX6, TX6, 7, tyX6, rfl, tyX6_ok, nmX6, rfl, fun e => Bool.noConfusion e, rfl⟩
theorem fl_X11_108_4 : fL RX11 108 4 3 := ⟨RX4, TX4, 7, "WheelAndWire$Form", rfl, rfl, by decide, by decide, m_105, Or.inl rfl, iX4⟩
theorem fl_X11_111_4 : fL RX11 111 4 4 := ⟨RX4, TX4, 7, "WheelAndWire$Form", rfl, rfl, by decide, by decide, m_111, Or.inl rfl, iX4⟩
theorem vw_X11_114 : vW RX11 114 4 yX4_holds cX4_holds 5 (some .boolean) 4 := ⟨⟨_, rfl, by decide, rfl⟩, m_464, m_465, m_466, m_42, m_467, ⟨by decide +kernel, by decide +kernel, by decide +kernel⟩⟩
theorem vw_X11_118 : vW RX11 118 4 yX4_kindAt cX4_kindAt 4 (some .int) 2 := ⟨⟨_, rfl, by decide, rfl⟩, m_468, m_90, m_91, m_42, m_92, ⟨by decide +kernel, by decide +kernel, by decide +kernel⟩⟩
theorem vw_X1_44 : vW RX1 44 1 yX1_knows cX1_knows 2 (some .boolean) 1 := ⟨⟨_, rfl, by decide, rfl⟩, m_477, m_478, m_479, m_43, m_480, ⟨by decide +kernel, by decide +kernel, by decide +kernel⟩⟩
theorem fl_X1_48_7 : fL RX1 48 7 6 := ⟨RX7, TX7, 13, "WheelAndWire$Piece", rfl, rfl, by decide, by decide, m_157, Or.inl rfl, iX7⟩
theorem vw_X7_99 : vW RX7 99 7 yX7_become cX7_become 2 none 1 := ⟨⟨_, rfl, by decide, rfl⟩, m_489, m_490, m_491, m_44, m_492, ⟨by decide +kernel, by decide +kernel, by decide +kernel⟩⟩
theorem sw_X7_103 : sW RX7 103 yX7_share cX7_share 3 (some .int) 3 := ⟨rfl, m_493, m_494, m_44, m_495, ⟨by decide +kernel, by decide +kernel, by decide +kernel⟩⟩
theorem fl_X1_18_1 : fL RX1 18 1 2 := ⟨RX1, TX1, 6, "WheelAndWire$Board", rfl, rfl, by decide, by decide, m_222, Or.inl rfl, iX1⟩
theorem vw_X1_51 : vW RX1 51 7 yX7_part cX7_part 6 none 5 := ⟨⟨_, rfl, by decide, rfl⟩, m_485, m_486, m_487, m_44, m_488, ⟨by decide +kernel, by decide +kernel, by decide +kernel⟩⟩
theorem vw_X1_40 : vW RX1 40 7 yX7_become cX7_become 2 none 1 := ⟨⟨_, rfl, by decide, rfl⟩, m_496, m_490, m_491, m_44, m_492, ⟨by decide +kernel, by decide +kernel, by decide +kernel⟩⟩
theorem vw_X11_122 : vW RX11 122 1 yX1_stillHas cX1_stillHas 2 (some .boolean) 1 := ⟨⟨_, rfl, by decide, rfl⟩, m_473, m_474, m_475, m_43, m_476, ⟨by decide +kernel, by decide +kernel, by decide +kernel⟩⟩
theorem fl_X11_126_1 : fL RX11 126 1 1 := ⟨RX1, TX1, 6, "WheelAndWire$Board", rfl, rfl, by decide, by decide, m_221, Or.inl rfl, iX1⟩
theorem fl_X11_133_7 : fL RX11 133 7 3 := ⟨RX7, TX7, 13, "WheelAndWire$Piece", rfl, rfl, by decide, by decide, m_150, Or.inl rfl, iX7⟩
theorem fl_X11_130_7 : fL RX11 130 7 2 := ⟨RX7, TX7, 13, "WheelAndWire$Piece", rfl, rfl, by decide, by decide, m_148, Or.inl rfl, iX7⟩
theorem vw_X11_134 : vW RX11 134 1 yX1_divide cX1_divide 4 (some .int) 3 := ⟨⟨_, rfl, by decide, rfl⟩, m_481, m_482, m_483, m_43, m_484, ⟨by decide +kernel, by decide +kernel, by decide +kernel⟩⟩
theorem vw_X7_65 : vW RX7 65 7 yX7_edgesAbove cX7_edgesAbove 1 (some .int) 0 := ⟨⟨_, rfl, by decide, rfl⟩, m_510, m_511, m_512, m_44, m_513, ⟨by decide +kernel, by decide +kernel, by decide +kernel⟩⟩
theorem vw_X7_69 : vW RX7 69 7 yX7_edgesBelow cX7_edgesBelow 2 (some .int) 1 := ⟨⟨_, rfl, by decide, rfl⟩, m_514, m_515, m_516, m_44, m_517, ⟨by decide +kernel, by decide +kernel, by decide +kernel⟩⟩
theorem vw_X7_73 : vW RX7 73 7 yX7_edgesLeft cX7_edgesLeft 1 (some .int) 0 := ⟨⟨_, rfl, by decide, rfl⟩, m_518, m_519, m_520, m_44, m_521, ⟨by decide +kernel, by decide +kernel, by decide +kernel⟩⟩
theorem vw_X7_76 : vW RX7 76 7 yX7_edgesRight cX7_edgesRight 2 (some .int) 1 := ⟨⟨_, rfl, by decide, rfl⟩, m_522, m_523, m_524, m_44, m_525, ⟨by decide +kernel, by decide +kernel, by decide +kernel⟩⟩
theorem vw_X11_138 : vW RX11 138 1 yX1_knows cX1_knows 2 (some .boolean) 1 := ⟨⟨_, rfl, by decide, rfl⟩, m_501, m_478, m_479, m_43, m_480, ⟨by decide +kernel, by decide +kernel, by decide +kernel⟩⟩
theorem vw_X11_141 : vW RX11 141 7 yX7_block cX7_block 1 (some .int) 0 := ⟨⟨_, rfl, by decide, rfl⟩, m_502, m_503, m_504, m_44, m_505, ⟨by decide +kernel, by decide +kernel, by decide +kernel⟩⟩
theorem fl_X11_144_7 : fL RX11 144 7 6 := ⟨RX7, TX7, 13, "WheelAndWire$Piece", rfl, rfl, by decide, by decide, m_158, Or.inl rfl, iX7⟩
theorem fl_X11_147_7 : fL RX11 147 7 5 := ⟨RX7, TX7, 13, "WheelAndWire$Piece", rfl, rfl, by decide, by decide, m_154, Or.inl rfl, iX7⟩
theorem vw_X11_150 : vW RX11 150 7 yX7_bareEdges cX7_bareEdges 2 (some .int) 1 := ⟨⟨_, rfl, by decide, rfl⟩, m_506, m_507, m_508, m_44, m_509, ⟨by decide +kernel, by decide +kernel, by decide +kernel⟩⟩
theorem vw_X11_154 : vW RX11 154 7 yX7_dried cX7_dried 1 (some .int) 0 := ⟨⟨_, rfl, by decide, rfl⟩, m_526, m_527, m_528, m_44, m_529, ⟨by decide +kernel, by decide +kernel, by decide +kernel⟩⟩
theorem fl_X11_157_7 : fL RX11 157 7 8 := ⟨RX7, TX7, 13, "WheelAndWire$Piece", rfl, rfl, by decide, by decide, m_162, Or.inl rfl, iX7⟩
theorem fl_X11_160_7 : fL RX11 160 7 7 := ⟨RX7, TX7, 13, "WheelAndWire$Piece", rfl, rfl, by decide, by decide, m_160, Or.inl rfl, iX7⟩
theorem vw_X11_163 : vW RX11 163 7 yX7_isEnd cX7_isEnd 3 (some .boolean) 1 := ⟨⟨_, rfl, by decide, rfl⟩, m_530, m_531, m_532, m_44, m_533, ⟨by decide +kernel, by decide +kernel, by decide +kernel⟩⟩
theorem vw_X7_79 : vW RX7 79 7 yX7_dried cX7_dried 1 (some .int) 0 := ⟨⟨_, rfl, by decide, rfl⟩, m_542, m_527, m_528, m_44, m_529, ⟨by decide +kernel, by decide +kernel, by decide +kernel⟩⟩
theorem mw_X7_82 : Cond.methodLink RX7 82 Lib.Math.max.name ∈ BIG ∧ Cond.static Lib.Math.max.name ∈ BIG ∧ Cond.initialized "java/lang/Math" ∈ BIG ∧ Cond.code Lib.Math.max.name Lib.Math.max.code 2 (some .int) ∈ BIG := ⟨m_543, m_291, m_48, m_292⟩
theorem vw_X11_167 : vW RX11 167 7 yX7_weight cX7_weight 1 (some .int) 0 := ⟨⟨_, rfl, by decide, rfl⟩, m_538, m_539, m_540, m_44, m_541, ⟨by decide +kernel, by decide +kernel, by decide +kernel⟩⟩
theorem vw_X1_55 : vW RX1 55 7 yX7_dry cX7_dry 4 none 2 := ⟨⟨_, rfl, by decide, rfl⟩, m_552, m_553, m_554, m_44, m_555, ⟨by decide +kernel, by decide +kernel, by decide +kernel⟩⟩
theorem fl_X11_170_1 : fL RX11 170 1 4 := ⟨RX1, TX1, 6, "WheelAndWire$Board", rfl, rfl, by decide, by decide, m_227, Or.inl rfl, iX1⟩
theorem vw_X11_173 : vW RX11 173 1 yX1_goBy cX1_goBy 3 none 1 := ⟨⟨_, rfl, by decide, rfl⟩, m_548, m_549, m_550, m_43, m_551, ⟨by decide +kernel, by decide +kernel, by decide +kernel⟩⟩
theorem vw_X7_92 : vW RX7 92 7 yX7_bareEdges cX7_bareEdges 2 (some .int) 1 := ⟨⟨_, rfl, by decide, rfl⟩, m_571, m_507, m_508, m_44, m_509, ⟨by decide +kernel, by decide +kernel, by decide +kernel⟩⟩
theorem vw_X11_181 : vW RX11 181 7 yX7_shave cX7_shave 2 none 1 := ⟨⟨_, rfl, by decide, rfl⟩, m_567, m_568, m_569, m_44, m_570, ⟨by decide +kernel, by decide +kernel, by decide +kernel⟩⟩
theorem bw_X0_3 : Cond.methodLink RX0 3 Lib.objectInit ∈ BIG ∧ Cond.instanceMethod Lib.objectInit ∈ BIG ∧ Cond.code Lib.objectInit ⟨#[0xb1]⟩ 1 none ∈ BIG := ⟨m_588, m_60, m_61⟩
theorem iX0 : ∀ w ∈ u_ws RX0 TX0 3, w ∈ BIG := bms [593, 595, 597] (by decide +kernel) (by decide +kernel)
theorem fl_X0_9_0 : fL RX0 9 0 0 := ⟨RX0, TX0, 3, "WheelAndWire$Ask", rfl, rfl, by decide, by decide, m_589, Or.inl rfl, iX0⟩
theorem fp_0_0_f : fP 0 0 true RX0 .int := ⟨RX0, TX0, 3, tyX0, rfl, tyX0_ok, nmX0, rfl, fun _ => rfl, rfl⟩
theorem fl_X0_15_0 : fL RX0 15 0 1 := ⟨RX0, TX0, 3, "WheelAndWire$Ask", rfl, rfl, by decide, by decide, m_591, Or.inl rfl, iX0⟩
theorem fp_0_1_f : fP 0 1 true RX0 .int := ⟨RX0, TX0, 3, tyX0, rfl, tyX0_ok, nmX0, rfl, fun _ => rfl, rfl⟩
theorem fl_X0_18_0 : fL RX0 18 0 2 := ⟨RX0, TX0, 3, "WheelAndWire$Ask", rfl, rfl, by decide, by decide, m_592, Or.inl rfl, iX0⟩
theorem fp_0_2_f : fP 0 2 true RX0 .int := ⟨RX0, TX0, 3, tyX0, rfl, tyX0_ok, nmX0, rfl, fun _ => rfl, rfl⟩
theorem fl_X0_21_7 : fL RX0 21 7 6 := ⟨RX7, TX7, 13, "WheelAndWire$Piece", rfl, rfl, by decide, by decide, m_156, Or.inl rfl, iX7⟩
theorem vw_X0_26 : vW RX0 26 7 yX7_weight cX7_weight 1 (some .int) 0 := ⟨⟨_, rfl, by decide, rfl⟩, m_604, m_539, m_540, m_44, m_541, ⟨by decide +kernel, by decide +kernel, by decide +kernel⟩⟩
theorem fl_X0_29_7 : fL RX0 29 7 5 := ⟨RX7, TX7, 13, "WheelAndWire$Piece", rfl, rfl, by decide, by decide, m_153, Or.inl rfl, iX7⟩
theorem vw_X0_30 : vW RX0 30 0 yX0_fits cX0_fits 3 (some .boolean) 2 := ⟨⟨_, rfl, by decide, rfl⟩, m_605, m_606, m_607, m_53, m_608, ⟨by decide +kernel, by decide +kernel, by decide +kernel⟩⟩
theorem sw_X11_184 : sW RX11 184 yX11_isAsk cX11_isAsk 3 (some .boolean) 3 := ⟨rfl, m_580, m_581, m_40, m_582, ⟨by decide +kernel, by decide +kernel, by decide +kernel⟩⟩
theorem ow_X11_188 : oW RX11 188 0 := ⟨RX0, TX0, 3, tyX0, rfl, rfl, by decide, iX0, tyX0_ok, m_583, m_584, m_53, by decide +kernel⟩
theorem iw_X11_190 : iW RX11 190 yX0_init cX0_init 4 3 := ⟨rfl, m_585, m_586, m_53, m_587, ⟨by decide +kernel, by decide +kernel, by decide +kernel⟩⟩
theorem vw_X11_193 : vW RX11 193 0 yX0_isServedBy cX0_isServedBy 2 (some .boolean) 1 := ⟨⟨_, rfl, by decide, rfl⟩, m_600, m_601, m_602, m_53, m_603, ⟨by decide +kernel, by decide +kernel, by decide +kernel⟩⟩
theorem iX9 : ∀ w ∈ u_ws RX9 TX9 9, w ∈ BIG := bms [262, 264, 266, 268, 270, 272, 274, 276, 278] (by decide +kernel) (by decide +kernel)
theorem fl_X9_35_9 : fL RX9 35 9 1 := ⟨RX9, TX9, 9, "WheelAndWire$Shop", rfl, rfl, by decide, by decide, m_252, Or.inl rfl, iX9⟩
theorem fl_X9_39_1 : fL RX9 39 1 3 := ⟨RX1, TX1, 6, "WheelAndWire$Board", rfl, rfl, by decide, by decide, m_223, Or.inl rfl, iX1⟩
theorem fl_X9_45_1 : fL RX9 45 1 1 := ⟨RX1, TX1, 6, "WheelAndWire$Board", rfl, rfl, by decide, by decide, m_220, Or.inl rfl, iX1⟩
theorem vw_X9_49 : vW RX9 49 7 yX7_weight cX7_weight 1 (some .int) 0 := ⟨⟨_, rfl, by decide, rfl⟩, m_617, m_539, m_540, m_44, m_541, ⟨by decide +kernel, by decide +kernel, by decide +kernel⟩⟩
theorem vw_X9_53 : vW RX9 53 0 yX0_isServedBy cX0_isServedBy 2 (some .boolean) 1 := ⟨⟨_, rfl, by decide, rfl⟩, m_618, m_601, m_602, m_53, m_603, ⟨by decide +kernel, by decide +kernel, by decide +kernel⟩⟩
theorem fl_X11_41_11 : fL RX11 41 11 4 := ⟨RX11, TX11, 11, "WheelAndWire", rfl, rfl, by decide, by decide, m_393, Or.inl rfl, iX11⟩
theorem vw_X11_197 : vW RX11 197 9 yX9_lightestPiece cX9_lightestPiece 7 (some .int) 1 := ⟨⟨_, rfl, by decide, rfl⟩, m_613, m_614, m_615, m_45, m_616, ⟨by decide +kernel, by decide +kernel, by decide +kernel⟩⟩
theorem vw_X7_95 : vW RX7 95 7 yX7_isAcross cX7_isAcross 2 (some .boolean) 1 := ⟨⟨_, rfl, by decide, rfl⟩, m_636, m_637, m_638, m_44, m_639, ⟨by decide +kernel, by decide +kernel, by decide +kernel⟩⟩
theorem vw_X9_67 : vW RX9 67 7 yX7_isAcross cX7_isAcross 2 (some .boolean) 1 := ⟨⟨_, rfl, by decide, rfl⟩, m_640, m_637, m_638, m_44, m_639, ⟨by decide +kernel, by decide +kernel, by decide +kernel⟩⟩
theorem vw_X9_71 : vW RX9 71 7 yX7_cutAt cX7_cutAt 2 (some .int) 1 := ⟨⟨_, rfl, by decide, rfl⟩, m_641, m_642, m_643, m_44, m_644, ⟨by decide +kernel, by decide +kernel, by decide +kernel⟩⟩
theorem vw_X9_60 : vW RX9 60 7 yX7_cuts cX7_cuts 1 (some .int) 0 := ⟨⟨_, rfl, by decide, rfl⟩, m_628, m_629, m_630, m_44, m_631, ⟨by decide +kernel, by decide +kernel, by decide +kernel⟩⟩
theorem vw_X9_63 : vW RX9 63 7 yX7_cutEdges cX7_cutEdges 2 (some .int) 1 := ⟨⟨_, rfl, by decide, rfl⟩, m_632, m_633, m_634, m_44, m_635, ⟨by decide +kernel, by decide +kernel, by decide +kernel⟩⟩
theorem fl_X9_31_9 : fL RX9 31 9 0 := ⟨RX9, TX9, 9, "WheelAndWire$Shop", rfl, rfl, by decide, by decide, m_251, Or.inl rfl, iX9⟩
theorem fl_X9_12_9 : fL RX9 12 9 2 := ⟨RX9, TX9, 9, "WheelAndWire$Shop", rfl, rfl, by decide, by decide, m_253, Or.inl rfl, iX9⟩
theorem fl_X9_18_9 : fL RX9 18 9 3 := ⟨RX9, TX9, 9, "WheelAndWire$Shop", rfl, rfl, by decide, by decide, m_254, Or.inl rfl, iX9⟩
theorem vw_X9_74 : vW RX9 74 7 yX7_part cX7_part 6 none 5 := ⟨⟨_, rfl, by decide, rfl⟩, m_645, m_486, m_487, m_44, m_488, ⟨by decide +kernel, by decide +kernel, by decide +kernel⟩⟩
theorem vw_X9_78 : vW RX9 78 9 yX9_told cX9_told 5 (some .int) 3 := ⟨⟨_, rfl, by decide, rfl⟩, m_646, m_647, m_648, m_45, m_649, ⟨by decide +kernel, by decide +kernel, by decide +kernel⟩⟩
theorem vw_X11_201 : vW RX11 201 9 yX9_shortestCut cX9_shortestCut 8 (some .int) 1 := ⟨⟨_, rfl, by decide, rfl⟩, m_623, m_624, m_625, m_45, m_626, ⟨by decide +kernel, by decide +kernel, by decide +kernel⟩⟩
theorem vw_X9_82 : vW RX9 82 1 yX1_stillHas cX1_stillHas 2 (some .boolean) 1 := ⟨⟨_, rfl, by decide, rfl⟩, m_658, m_474, m_475, m_43, m_476, ⟨by decide +kernel, by decide +kernel, by decide +kernel⟩⟩
theorem vw_X9_85 : vW RX9 85 1 yX1_divide cX1_divide 4 (some .int) 3 := ⟨⟨_, rfl, by decide, rfl⟩, m_659, m_482, m_483, m_43, m_484, ⟨by decide +kernel, by decide +kernel, by decide +kernel⟩⟩
theorem vw_X11_204 : vW RX11 204 9 yX9_cutOff cX9_cutOff 4 (some .int) 1 := ⟨⟨_, rfl, by decide, rfl⟩, m_654, m_655, m_656, m_45, m_657, ⟨by decide +kernel, by decide +kernel, by decide +kernel⟩⟩
theorem fl_X9_21_9 : fL RX9 21 9 4 := ⟨RX9, TX9, 9, "WheelAndWire$Shop", rfl, rfl, by decide, by decide, m_255, Or.inl rfl, iX9⟩
theorem fl_X9_24_9 : fL RX9 24 9 5 := ⟨RX9, TX9, 9, "WheelAndWire$Shop", rfl, rfl, by decide, by decide, m_256, Or.inl rfl, iX9⟩
theorem fl_X9_27_9 : fL RX9 27 9 6 := ⟨RX9, TX9, 9, "WheelAndWire$Shop", rfl, rfl, by decide, by decide, m_257, Or.inl rfl, iX9⟩
theorem mw_X9_112 : Cond.methodLink RX9 112 Lib.Math.min.name ∈ BIG ∧ Cond.static Lib.Math.min.name ∈ BIG ∧ Cond.initialized "java/lang/Math" ∈ BIG ∧ Cond.code Lib.Math.min.name Lib.Math.min.code 2 (some .int) ∈ BIG := ⟨m_676, m_677, m_48, m_678⟩
theorem fl_X9_89_9 : fL RX9 89 9 7 := ⟨RX9, TX9, 9, "WheelAndWire$Shop", rfl, rfl, by decide, by decide, m_258, Or.inl rfl, iX9⟩
theorem fp_9_7 (o : String) : fP 9 7 false o .int := ⟨RX9, TX9, 9, tyX9, rfl, tyX9_ok, nmX9, rfl, fun e => Bool.noConfusion e, rfl⟩
theorem fl_X9_92_9 : fL RX9 92 9 8 := ⟨RX9, TX9, 9, "WheelAndWire$Shop", rfl, rfl, by decide, by decide, m_260, Or.inl rfl, iX9⟩
theorem fp_9_8 (o : String) : fP 9 8 false o .int := ⟨RX9, TX9, 9, tyX9, rfl, tyX9_ok, nmX9, rfl, fun e => Bool.noConfusion e, rfl⟩
theorem vw_X9_99 : vW RX9 99 9 yX9_laterWireElsewhere cX9_laterWireElsewhere 6 (some .int) 2 := ⟨⟨_, rfl, by decide, rfl⟩, m_672, m_673, m_674, m_45, m_675, ⟨by decide +kernel, by decide +kernel, by decide +kernel⟩⟩
theorem vw_X9_95 : vW RX9 95 9 yX9_laterWire cX9_laterWire 6 (some .int) 3 := ⟨⟨_, rfl, by decide, rfl⟩, m_668, m_669, m_670, m_45, m_671, ⟨by decide +kernel, by decide +kernel, by decide +kernel⟩⟩
theorem vw_X9_103 : vW RX9 103 9 yX9_weighWay cX9_weighWay 3 none 2 := ⟨⟨_, rfl, by decide, rfl⟩, m_679, m_680, m_681, m_45, m_682, ⟨by decide +kernel, by decide +kernel, by decide +kernel⟩⟩
theorem vw_X9_107 : vW RX9 107 9 yX9_tryCuts cX9_tryCuts 10 none 3 := ⟨⟨_, rfl, by decide, rfl⟩, m_683, m_684, m_685, m_45, m_686, ⟨by decide +kernel, by decide +kernel, by decide +kernel⟩⟩
theorem vw_X11_208 : vW RX11 208 9 yX9_lookTwoAhead cX9_lookTwoAhead 5 none 2 := ⟨⟨_, rfl, by decide, rfl⟩, m_664, m_665, m_666, m_45, m_667, ⟨by decide +kernel, by decide +kernel, by decide +kernel⟩⟩
theorem fl_X11_212_9 : fL RX11 212 9 7 := ⟨RX9, TX9, 9, "WheelAndWire$Shop", rfl, rfl, by decide, by decide, m_259, Or.inl rfl, iX9⟩
theorem fl_X11_216_9 : fL RX11 216 9 8 := ⟨RX9, TX9, 9, "WheelAndWire$Shop", rfl, rfl, by decide, by decide, m_261, Or.inl rfl, iX9⟩
theorem fl_X6_21_6 : fL RX6 21 6 5 := ⟨RX6, TX6, 7, "WheelAndWire$OrderPlan", rfl, rfl, by decide, by decide, m_297, Or.inl rfl, iX6⟩
theorem fl_X6_11_6 : fL RX6 11 6 3 := ⟨RX6, TX6, 7, "WheelAndWire$OrderPlan", rfl, rfl, by decide, by decide, m_295, Or.inl rfl, iX6⟩
theorem fp_6_5 (o : String) : fP 6 5 false o .int := ⟨RX6, TX6, 7, tyX6, rfl, tyX6_ok, nmX6, rfl, fun e => Bool.noConfusion e, rfl⟩
theorem fl_X6_25_6 : fL RX6 25 6 6 := ⟨RX6, TX6, 7, "WheelAndWire$OrderPlan", rfl, rfl, by decide, by decide, m_299, Or.inl rfl, iX6⟩
theorem fl_X11_219_6 : fL RX11 219 6 5 := ⟨RX6, TX6, 7, "WheelAndWire$OrderPlan", rfl, rfl, by decide, by decide, m_298, Or.inl rfl, iX6⟩
theorem vw_X11_222 : vW RX11 222 6 yX6_enter cX6_enter 2 none 1 := ⟨⟨_, rfl, by decide, rfl⟩, m_697, m_698, m_699, m_47, m_700, ⟨by decide +kernel, by decide +kernel, by decide +kernel⟩⟩
theorem vw_X11_226 : vW RX11 226 6 yX6_empty cX6_empty 1 none 0 := ⟨⟨_, rfl, by decide, rfl⟩, m_705, m_706, m_707, m_47, m_708, ⟨by decide +kernel, by decide +kernel, by decide +kernel⟩⟩
theorem vw_X6_33 : vW RX6 33 6 yX6_everyAsk cX6_everyAsk 1 (some .int) 0 := ⟨⟨_, rfl, by decide, rfl⟩, m_721, m_722, m_723, m_47, m_724, ⟨by decide +kernel, by decide +kernel, by decide +kernel⟩⟩
theorem fl_X6_45_0 : fL RX6 45 0 0 := ⟨RX0, TX0, 3, "WheelAndWire$Ask", rfl, rfl, by decide, by decide, m_590, Or.inl rfl, iX0⟩
theorem fl_X6_17_6 : fL RX6 17 6 4 := ⟨RX6, TX6, 7, "WheelAndWire$OrderPlan", rfl, rfl, by decide, by decide, m_296, Or.inl rfl, iX6⟩
theorem fl_X8_21_6 : fL RX8 21 6 1 := ⟨RX6, TX6, 7, "WheelAndWire$Plan", rfl, rfl, by decide, by decide, m_306, Or.inl rfl, iX6⟩
theorem fl_X6_49_6 : fL RX6 49 6 0 := ⟨RX6, TX6, 7, "WheelAndWire$OrderPlan", rfl, rfl, by decide, by decide, m_304, Or.inr m_305, iX6⟩
theorem vw_X6_65 : vW RX6 65 4 yX4_weightIn cX4_weightIn 5 (some .int) 4 := ⟨⟨_, rfl, by decide, rfl⟩, m_766, m_203, m_204, m_42, m_205, ⟨by decide +kernel, by decide +kernel, by decide +kernel⟩⟩
theorem vw_X6_69 : vW RX6 69 4 yX4_rindIn cX4_rindIn 5 (some .int) 4 := ⟨⟨_, rfl, by decide, rfl⟩, m_768, m_211, m_212, m_42, m_213, ⟨by decide +kernel, by decide +kernel, by decide +kernel⟩⟩
theorem vw_X6_72 : vW RX6 72 0 yX0_fits cX0_fits 3 (some .boolean) 2 := ⟨⟨_, rfl, by decide, rfl⟩, m_769, m_606, m_607, m_53, m_608, ⟨by decide +kernel, by decide +kernel, by decide +kernel⟩⟩
theorem fl_X8_25_6 : fL RX8 25 6 2 := ⟨RX6, TX6, 7, "WheelAndWire$Plan", rfl, rfl, by decide, by decide, m_307, Or.inl rfl, iX6⟩
theorem uw_X8_44_6 : uW RX8 44 6 "WheelAndWire$Plan" yX8_spotOf yX8_spotOf cX8_spotOf 7 (some .int) 4 := ⟨_, rfl, by decide, m_739, m_741, m_744, m_740, m_46, m_745, ⟨by decide +kernel, by decide +kernel, by decide +kernel⟩, Or.inl rfl⟩
theorem uw_X8_60_6 : uW RX8 60 6 "WheelAndWire$Plan" ⟨"WheelAndWire$Plan", "cutPrice", "(I)I"⟩ yX6_cutPrice cX6_cutPrice 2 (some .int) 1 := ⟨_, rfl, by decide, m_785, m_787, m_794, m_795, m_47, m_796, ⟨by decide +kernel, by decide +kernel, by decide +kernel⟩, Or.inr (by decide +kernel)⟩
theorem uw_X8_64_6 : uW RX8 64 6 "WheelAndWire$Plan" yX8_bothCost yX8_bothCost cX8_bothCost 7 (some .int) 3 := ⟨_, rfl, by decide, m_797, m_799, m_802, m_798, m_46, m_803, ⟨by decide +kernel, by decide +kernel, by decide +kernel⟩, Or.inl rfl⟩
theorem uw_X8_56_6 : uW RX8 56 6 "WheelAndWire$Plan" yX8_cutCost yX8_cutCost cX8_cutCost 10 (some .int) 7 := ⟨_, rfl, by decide, m_778, m_780, m_783, m_779, m_46, m_784, ⟨by decide +kernel, by decide +kernel, by decide +kernel⟩, Or.inl rfl⟩
theorem mw_X8_37 : Cond.methodLink RX8 37 Lib.Math.min.name ∈ BIG ∧ Cond.static Lib.Math.min.name ∈ BIG ∧ Cond.initialized "java/lang/Math" ∈ BIG ∧ Cond.code Lib.Math.min.name Lib.Math.min.code 2 (some .int) ∈ BIG := ⟨m_731, m_677, m_48, m_678⟩
theorem uw_X8_48_6 : uW RX8 48 6 "WheelAndWire$Plan" ⟨"WheelAndWire$Plan", "verdict", "(IIIII)I"⟩ yX6_verdict cX6_verdict 8 (some .int) 5 := ⟨_, rfl, by decide, m_746, m_748, m_763, m_764, m_47, m_765, ⟨by decide +kernel, by decide +kernel, by decide +kernel⟩, Or.inr (by decide +kernel)⟩
theorem uw_X8_52_6 : uW RX8 52 6 "WheelAndWire$Plan" yX8_leastCut yX8_leastCut cX8_leastCut 8 (some .int) 5 := ⟨_, rfl, by decide, m_770, m_772, m_775, m_771, m_46, m_776, ⟨by decide +kernel, by decide +kernel, by decide +kernel⟩, Or.inl rfl⟩
theorem fl_X8_9_6 : fL RX8 9 6 0 := ⟨RX6, TX6, 7, "WheelAndWire$Plan", rfl, rfl, by decide, by decide, m_301, Or.inl rfl, iX6⟩
theorem fl_X8_29_4 : fL RX8 29 4 3 := ⟨RX4, TX4, 7, "WheelAndWire$Form", rfl, rfl, by decide, by decide, m_104, Or.inl rfl, iX4⟩
theorem fl_X8_34_4 : fL RX8 34 4 4 := ⟨RX4, TX4, 7, "WheelAndWire$Form", rfl, rfl, by decide, by decide, m_110, Or.inl rfl, iX4⟩
theorem uw_X8_40_6 : uW RX8 40 6 "WheelAndWire$Plan" yX8_settle yX8_settle cX8_settle 9 none 5 := ⟨_, rfl, by decide, m_732, m_734, m_737, m_733, m_46, m_738, ⟨by decide +kernel, by decide +kernel, by decide +kernel⟩, Or.inl rfl⟩
theorem vw_X6_29 : vW RX6 29 6 yX6_addUpWishes cX6_addUpWishes 4 none 0 := ⟨⟨_, rfl, by decide, rfl⟩, m_717, m_718, m_719, m_47, m_720, ⟨by decide +kernel, by decide +kernel, by decide +kernel⟩⟩
theorem uw_X6_37_6 : uW RX6 37 6 "WheelAndWire$Plan" ⟨"WheelAndWire$OrderPlan", "workOut", "(I)V"⟩ yX8_workOut cX8_workOut 6 none 1 := ⟨_, rfl, by decide, m_725, m_726, m_728, m_729, m_46, m_730, ⟨by decide +kernel, by decide +kernel, by decide +kernel⟩, Or.inl rfl⟩
theorem uw_X6_41_6 : uW RX6 41 6 "WheelAndWire$Plan" ⟨"WheelAndWire$OrderPlan", "costOfAll", "(I)I"⟩ yX8_costOfAll cX8_costOfAll 2 (some .int) 1 := ⟨_, rfl, by decide, m_804, m_805, m_807, m_808, m_46, m_809, ⟨by decide +kernel, by decide +kernel, by decide +kernel⟩, Or.inl rfl⟩
theorem vw_X11_227 : vW RX11 227 6 yX6_shortest cX6_shortest 1 (some .int) 0 := ⟨⟨_, rfl, by decide, rfl⟩, m_713, m_714, m_715, m_47, m_716, ⟨by decide +kernel, by decide +kernel, by decide +kernel⟩⟩
theorem fl_X6_53_4 : fL RX6 53 4 3 := ⟨RX4, TX4, 7, "WheelAndWire$Form", rfl, rfl, by decide, by decide, m_106, Or.inl rfl, iX4⟩
theorem fl_X6_58_4 : fL RX6 58 4 4 := ⟨RX4, TX4, 7, "WheelAndWire$Form", rfl, rfl, by decide, by decide, m_112, Or.inl rfl, iX4⟩
theorem uw_X6_61_6 : uW RX6 61 6 "WheelAndWire$Plan" ⟨"WheelAndWire$OrderPlan", "cutCost", "(IIIIZII)I"⟩ yX8_cutCost cX8_cutCost 10 (some .int) 7 := ⟨_, rfl, by decide, m_818, m_819, m_821, m_779, m_46, m_784, ⟨by decide +kernel, by decide +kernel, by decide +kernel⟩, Or.inl rfl⟩
theorem vw_X11_230 : vW RX11 230 6 yX6_firstCut cX6_firstCut 3 (some .int) 1 := ⟨⟨_, rfl, by decide, rfl⟩, m_814, m_815, m_816, m_47, m_817, ⟨by decide +kernel, by decide +kernel, by decide +kernel⟩⟩
theorem iX3 : ∀ w ∈ u_ws RX3 TX3 5, w ∈ BIG := bms [335, 336, 337, 331, 333] (by decide +kernel) (by decide +kernel)
theorem fl_X8_21_3 : fL RX8 21 3 1 := ⟨RX3, TX3, 5, "WheelAndWire$Plan", rfl, rfl, by decide, by decide, m_306, Or.inl rfl, iX3⟩
theorem fl_X3_15_3 : fL RX3 15 3 0 := ⟨RX3, TX3, 5, "WheelAndWire$FairPlan", rfl, rfl, by decide, by decide, m_302, Or.inr m_303, iX3⟩
theorem vw_X3_27 : vW RX3 27 4 yX4_weightIn cX4_weightIn 5 (some .int) 4 := ⟨⟨_, rfl, by decide, rfl⟩, m_752, m_203, m_204, m_42, m_205, ⟨by decide +kernel, by decide +kernel, by decide +kernel⟩⟩
theorem fl_X3_9_3 : fL RX3 9 3 3 := ⟨RX3, TX3, 5, "WheelAndWire$FairPlan", rfl, rfl, by decide, by decide, m_329, Or.inl rfl, iX3⟩
theorem vw_X3_31 : vW RX3 31 4 yX4_rindIn cX4_rindIn 5 (some .int) 4 := ⟨⟨_, rfl, by decide, rfl⟩, m_754, m_211, m_212, m_42, m_213, ⟨by decide +kernel, by decide +kernel, by decide +kernel⟩⟩
theorem fl_X3_35_3 : fL RX3 35 3 4 := ⟨RX3, TX3, 5, "WheelAndWire$FairPlan", rfl, rfl, by decide, by decide, m_330, Or.inl rfl, iX3⟩
theorem fl_X8_25_3 : fL RX8 25 3 2 := ⟨RX3, TX3, 5, "WheelAndWire$Plan", rfl, rfl, by decide, by decide, m_307, Or.inl rfl, iX3⟩
theorem uw_X8_44_3 : uW RX8 44 3 "WheelAndWire$Plan" yX8_spotOf yX8_spotOf cX8_spotOf 7 (some .int) 4 := ⟨_, rfl, by decide, m_739, m_741, m_742, m_740, m_46, m_745, ⟨by decide +kernel, by decide +kernel, by decide +kernel⟩, Or.inl rfl⟩
theorem uw_X8_60_3 : uW RX8 60 3 "WheelAndWire$Plan" ⟨"WheelAndWire$Plan", "cutPrice", "(I)I"⟩ yX3_cutPrice cX3_cutPrice 2 (some .int) 1 := ⟨_, rfl, by decide, m_785, m_787, m_788, m_789, m_49, m_790, ⟨by decide +kernel, by decide +kernel, by decide +kernel⟩, Or.inr (by decide +kernel)⟩
theorem uw_X8_64_3 : uW RX8 64 3 "WheelAndWire$Plan" yX8_bothCost yX8_bothCost cX8_bothCost 7 (some .int) 3 := ⟨_, rfl, by decide, m_797, m_799, m_800, m_798, m_46, m_803, ⟨by decide +kernel, by decide +kernel, by decide +kernel⟩, Or.inl rfl⟩
theorem uw_X8_56_3 : uW RX8 56 3 "WheelAndWire$Plan" yX8_cutCost yX8_cutCost cX8_cutCost 10 (some .int) 7 := ⟨_, rfl, by decide, m_778, m_780, m_781, m_779, m_46, m_784, ⟨by decide +kernel, by decide +kernel, by decide +kernel⟩, Or.inl rfl⟩
theorem uw_X8_48_3 : uW RX8 48 3 "WheelAndWire$Plan" ⟨"WheelAndWire$Plan", "verdict", "(IIIII)I"⟩ yX3_verdict cX3_verdict 8 (some .int) 5 := ⟨_, rfl, by decide, m_746, m_748, m_749, m_750, m_49, m_751, ⟨by decide +kernel, by decide +kernel, by decide +kernel⟩, Or.inr (by decide +kernel)⟩
theorem uw_X8_52_3 : uW RX8 52 3 "WheelAndWire$Plan" yX8_leastCut yX8_leastCut cX8_leastCut 8 (some .int) 5 := ⟨_, rfl, by decide, m_770, m_772, m_773, m_771, m_46, m_776, ⟨by decide +kernel, by decide +kernel, by decide +kernel⟩, Or.inl rfl⟩
theorem fl_X8_9_3 : fL RX8 9 3 0 := ⟨RX3, TX3, 5, "WheelAndWire$Plan", rfl, rfl, by decide, by decide, m_301, Or.inl rfl, iX3⟩
theorem uw_X8_40_3 : uW RX8 40 3 "WheelAndWire$Plan" yX8_settle yX8_settle cX8_settle 9 none 5 := ⟨_, rfl, by decide, m_732, m_734, m_735, m_733, m_46, m_738, ⟨by decide +kernel, by decide +kernel, by decide +kernel⟩, Or.inl rfl⟩
theorem fl_X3_19_4 : fL RX3 19 4 3 := ⟨RX4, TX4, 7, "WheelAndWire$Form", rfl, rfl, by decide, by decide, m_102, Or.inl rfl, iX4⟩
theorem fl_X3_24_4 : fL RX3 24 4 4 := ⟨RX4, TX4, 7, "WheelAndWire$Form", rfl, rfl, by decide, by decide, m_108, Or.inl rfl, iX4⟩
theorem fp_3_3 (o : String) : fP 3 3 false o .int := ⟨RX3, TX3, 5, tyX3, rfl, tyX3_ok, nmX3, rfl, fun e => Bool.noConfusion e, rfl⟩
theorem fp_3_4 (o : String) : fP 3 4 false o .int := ⟨RX3, TX3, 5, tyX3, rfl, tyX3_ok, nmX3, rfl, fun e => Bool.noConfusion e, rfl⟩
theorem uw_X3_38_3 : uW RX3 38 3 "WheelAndWire$Plan" ⟨"WheelAndWire$FairPlan", "workOut", "(I)V"⟩ yX8_workOut cX8_workOut 6 none 1 := ⟨_, rfl, by decide, m_830, m_831, m_832, m_729, m_46, m_730, ⟨by decide +kernel, by decide +kernel, by decide +kernel⟩, Or.inl rfl⟩
theorem uw_X3_42_3 : uW RX3 42 3 "WheelAndWire$Plan" ⟨"WheelAndWire$FairPlan", "costOfAll", "(I)I"⟩ yX8_costOfAll cX8_costOfAll 2 (some .int) 1 := ⟨_, rfl, by decide, m_833, m_834, m_835, m_808, m_46, m_809, ⟨by decide +kernel, by decide +kernel, by decide +kernel⟩, Or.inl rfl⟩
theorem fl_X11_55_11 : fL RX11 55 11 6 := ⟨RX11, TX11, 11, "WheelAndWire", rfl, rfl, by decide, by decide, m_395, Or.inl rfl, iX11⟩
theorem vw_X11_233 : vW RX11 233 3 yX3_shortest cX3_shortest 4 (some .int) 1 := ⟨⟨_, rfl, by decide, rfl⟩, m_826, m_827, m_828, m_49, m_829, ⟨by decide +kernel, by decide +kernel, by decide +kernel⟩⟩
theorem fl_X5_9_5 : fL RX5 9 5 3 := ⟨RX5, TX5, 9, "WheelAndWire$LeftPlan", rfl, rfl, by decide, by decide, m_345, Or.inl rfl, iX5⟩
theorem fl_X5_15_5 : fL RX5 15 5 4 := ⟨RX5, TX5, 9, "WheelAndWire$LeftPlan", rfl, rfl, by decide, by decide, m_346, Or.inl rfl, iX5⟩
theorem fl_X5_18_5 : fL RX5 18 5 5 := ⟨RX5, TX5, 9, "WheelAndWire$LeftPlan", rfl, rfl, by decide, by decide, m_347, Or.inl rfl, iX5⟩
theorem fl_X5_21_5 : fL RX5 21 5 6 := ⟨RX5, TX5, 9, "WheelAndWire$LeftPlan", rfl, rfl, by decide, by decide, m_348, Or.inl rfl, iX5⟩
theorem vw_X5_32 : vW RX5 32 5 yX5_isApart cX5_isApart 6 (some .boolean) 5 := ⟨⟨_, rfl, by decide, rfl⟩, m_758, m_759, m_760, m_50, m_761, ⟨by decide +kernel, by decide +kernel, by decide +kernel⟩⟩
theorem vw_X11_235 : vW RX11 235 5 yX5_touches cX5_touches 6 (some .boolean) 4 := ⟨⟨_, rfl, by decide, rfl⟩, m_840, m_841, m_842, m_50, m_843, ⟨by decide +kernel, by decide +kernel, by decide +kernel⟩⟩
theorem fl_X11_238_5 : fL RX11 238 5 7 := ⟨RX5, TX5, 9, "WheelAndWire$LeftPlan", rfl, rfl, by decide, by decide, m_350, Or.inl rfl, iX5⟩
theorem vw_X11_239 : vW RX11 239 5 yX5_enter cX5_enter 5 none 4 := ⟨⟨_, rfl, by decide, rfl⟩, m_844, m_845, m_846, m_50, m_847, ⟨by decide +kernel, by decide +kernel, by decide +kernel⟩⟩
theorem fl_X8_21_5 : fL RX8 21 5 1 := ⟨RX5, TX5, 9, "WheelAndWire$Plan", rfl, rfl, by decide, by decide, m_306, Or.inl rfl, iX5⟩
theorem fl_X8_25_5 : fL RX8 25 5 2 := ⟨RX5, TX5, 9, "WheelAndWire$Plan", rfl, rfl, by decide, by decide, m_307, Or.inl rfl, iX5⟩
theorem uw_X8_44_5 : uW RX8 44 5 "WheelAndWire$Plan" yX8_spotOf yX8_spotOf cX8_spotOf 7 (some .int) 4 := ⟨_, rfl, by decide, m_739, m_741, m_743, m_740, m_46, m_745, ⟨by decide +kernel, by decide +kernel, by decide +kernel⟩, Or.inl rfl⟩
theorem uw_X8_60_5 : uW RX8 60 5 "WheelAndWire$Plan" ⟨"WheelAndWire$Plan", "cutPrice", "(I)I"⟩ yX5_cutPrice cX5_cutPrice 2 (some .int) 1 := ⟨_, rfl, by decide, m_785, m_787, m_791, m_792, m_50, m_793, ⟨by decide +kernel, by decide +kernel, by decide +kernel⟩, Or.inr (by decide +kernel)⟩
theorem uw_X8_64_5 : uW RX8 64 5 "WheelAndWire$Plan" yX8_bothCost yX8_bothCost cX8_bothCost 7 (some .int) 3 := ⟨_, rfl, by decide, m_797, m_799, m_801, m_798, m_46, m_803, ⟨by decide +kernel, by decide +kernel, by decide +kernel⟩, Or.inl rfl⟩
theorem uw_X8_56_5 : uW RX8 56 5 "WheelAndWire$Plan" yX8_cutCost yX8_cutCost cX8_cutCost 10 (some .int) 7 := ⟨_, rfl, by decide, m_778, m_780, m_782, m_779, m_46, m_784, ⟨by decide +kernel, by decide +kernel, by decide +kernel⟩, Or.inl rfl⟩
theorem uw_X8_48_5 : uW RX8 48 5 "WheelAndWire$Plan" ⟨"WheelAndWire$Plan", "verdict", "(IIIII)I"⟩ yX5_verdict cX5_verdict 10 (some .int) 5 := ⟨_, rfl, by decide, m_746, m_748, m_755, m_756, m_50, m_757, ⟨by decide +kernel, by decide +kernel, by decide +kernel⟩, Or.inr (by decide +kernel)⟩
theorem uw_X8_52_5 : uW RX8 52 5 "WheelAndWire$Plan" yX8_leastCut yX8_leastCut cX8_leastCut 8 (some .int) 5 := ⟨_, rfl, by decide, m_770, m_772, m_774, m_771, m_46, m_776, ⟨by decide +kernel, by decide +kernel, by decide +kernel⟩, Or.inl rfl⟩
theorem fl_X8_9_5 : fL RX8 9 5 0 := ⟨RX5, TX5, 9, "WheelAndWire$Plan", rfl, rfl, by decide, by decide, m_301, Or.inl rfl, iX5⟩
theorem uw_X8_40_5 : uW RX8 40 5 "WheelAndWire$Plan" yX8_settle yX8_settle cX8_settle 9 none 5 := ⟨_, rfl, by decide, m_732, m_734, m_736, m_733, m_46, m_738, ⟨by decide +kernel, by decide +kernel, by decide +kernel⟩, Or.inl rfl⟩
theorem uw_X5_36_5 : uW RX5 36 5 "WheelAndWire$Plan" ⟨"WheelAndWire$LeftPlan", "workOut", "(I)V"⟩ yX8_workOut cX8_workOut 6 none 1 := ⟨_, rfl, by decide, m_856, m_857, m_858, m_729, m_46, m_730, ⟨by decide +kernel, by decide +kernel, by decide +kernel⟩, Or.inl rfl⟩
theorem uw_X5_40_5 : uW RX5 40 5 "WheelAndWire$Plan" ⟨"WheelAndWire$LeftPlan", "costOfAll", "(I)I"⟩ yX8_costOfAll cX8_costOfAll 2 (some .int) 1 := ⟨_, rfl, by decide, m_859, m_860, m_861, m_808, m_46, m_809, ⟨by decide +kernel, by decide +kernel, by decide +kernel⟩, Or.inl rfl⟩
theorem vw_X11_242 : vW RX11 242 5 yX5_fewest cX5_fewest 1 (some .int) 0 := ⟨⟨_, rfl, by decide, rfl⟩, m_852, m_853, m_854, m_50, m_855, ⟨by decide +kernel, by decide +kernel, by decide +kernel⟩⟩
theorem fl_X11_245_4 : fL RX11 245 4 5 := ⟨RX4, TX4, 7, "WheelAndWire$Form", rfl, rfl, by decide, by decide, m_114, Or.inl rfl, iX4⟩
theorem fl_X11_248_4 : fL RX11 248 4 6 := ⟨RX4, TX4, 7, "WheelAndWire$Form", rfl, rfl, by decide, by decide, m_116, Or.inl rfl, iX4⟩
theorem fp_4_5 (o : String) : fP 4 5 false o .int := ⟨RX4, TX4, 7, tyX4, rfl, tyX4_ok, nmX4, rfl, fun e => Bool.noConfusion e, rfl⟩
theorem fp_4_6 (o : String) : fP 4 6 false o .int := ⟨RX4, TX4, 7, tyX4, rfl, tyX4_ok, nmX4, rfl, fun e => Bool.noConfusion e, rfl⟩
theorem mw_X4_64 : Cond.methodLink RX4 64 Lib.Math.min.name ∈ BIG ∧ Cond.static Lib.Math.min.name ∈ BIG ∧ Cond.initialized "java/lang/Math" ∈ BIG ∧ Cond.code Lib.Math.min.name Lib.Math.min.code 2 (some .int) ∈ BIG := ⟨m_884, m_677, m_48, m_678⟩
theorem fl_X4_28_4 : fL RX4 28 4 5 := ⟨RX4, TX4, 7, "WheelAndWire$Form", rfl, rfl, by decide, by decide, m_113, Or.inl rfl, iX4⟩
theorem fl_X4_31_4 : fL RX4 31 4 6 := ⟨RX4, TX4, 7, "WheelAndWire$Form", rfl, rfl, by decide, by decide, m_115, Or.inl rfl, iX4⟩
theorem vw_X7_110 : vW RX7 110 4 yX4_isRipe cX4_isRipe 6 (some .boolean) 3 := ⟨⟨_, rfl, by decide, rfl⟩, m_880, m_881, m_882, m_42, m_883, ⟨by decide +kernel, by decide +kernel, by decide +kernel⟩⟩
theorem vw_X7_107 : vW RX7 107 4 yX4_kindAt cX4_kindAt 4 (some .int) 2 := ⟨⟨_, rfl, by decide, rfl⟩, m_889, m_90, m_91, m_42, m_92, ⟨by decide +kernel, by decide +kernel, by decide +kernel⟩⟩
theorem mw_X11_312 : Cond.methodLink RX11 312 Lib.MathLoose.abs_long.x ∈ BIG ∧ Cond.static Lib.MathLoose.abs_long.x ∈ BIG ∧ Cond.initialized "java/lang/Math" ∈ BIG ∧ Cond.code Lib.MathLoose.abs_long.x Lib.MathLoose.abs_long.code 2 (some .long) ∈ BIG := ⟨m_894, m_895, m_48, m_896⟩
theorem mw_X11_316 : Cond.methodLink RX11 316 Lib.MathLoose.max_long.x ∈ BIG ∧ Cond.static Lib.MathLoose.max_long.x ∈ BIG ∧ Cond.initialized "java/lang/Math" ∈ BIG ∧ Cond.code Lib.MathLoose.max_long.x Lib.MathLoose.max_long.code 4 (some .long) ∈ BIG := ⟨m_897, m_898, m_48, m_899⟩
theorem vw_X11_255 : vW RX11 255 7 yX7_ripePlaces cX7_ripePlaces 6 (some .int) 2 := ⟨⟨_, rfl, by decide, rfl⟩, m_876, m_877, m_878, m_44, m_879, ⟨by decide +kernel, by decide +kernel, by decide +kernel⟩⟩
theorem vw_X11_259 : vW RX11 259 7 yX7_pastePlaces cX7_pastePlaces 5 (some .int) 1 := ⟨⟨_, rfl, by decide, rfl⟩, m_885, m_886, m_887, m_44, m_888, ⟨by decide +kernel, by decide +kernel, by decide +kernel⟩⟩
theorem mw_X11_262 : Cond.methodLink RX11 262 Lib.Math.max.name ∈ BIG ∧ Cond.static Lib.Math.max.name ∈ BIG ∧ Cond.initialized "java/lang/Math" ∈ BIG ∧ Cond.code Lib.Math.max.name Lib.Math.max.code 2 (some .int) ∈ BIG := ⟨m_890, m_291, m_48, m_292⟩
theorem sw_X11_267 : sW RX11 267 yX11_commonDivisor cX11_commonDivisor 11 (some .long) 2 := ⟨rfl, m_891, m_892, m_40, m_893, ⟨by decide +kernel, by decide +kernel, by decide +kernel⟩⟩
theorem vw_X1_59 : vW RX1 59 7 yX7_ripePlaces cX7_ripePlaces 6 (some .int) 2 := ⟨⟨_, rfl, by decide, rfl⟩, m_908, m_877, m_878, m_44, m_879, ⟨by decide +kernel, by decide +kernel, by decide +kernel⟩⟩
theorem vw_X1_63 : vW RX1 63 7 yX7_pastePlaces cX7_pastePlaces 5 (some .int) 1 := ⟨⟨_, rfl, by decide, rfl⟩, m_909, m_886, m_887, m_44, m_888, ⟨by decide +kernel, by decide +kernel, by decide +kernel⟩⟩
theorem mw_X1_67 : Cond.methodLink RX1 67 Lib.Math.max.name ∈ BIG ∧ Cond.static Lib.Math.max.name ∈ BIG ∧ Cond.initialized "java/lang/Math" ∈ BIG ∧ Cond.code Lib.Math.max.name Lib.Math.max.code 2 (some .int) ∈ BIG := ⟨m_910, m_291, m_48, m_292⟩
theorem vw_X11_271 : vW RX11 271 1 yX1_ripestPiece cX1_ripestPiece 8 (some .int) 1 := ⟨⟨_, rfl, by decide, rfl⟩, m_904, m_905, m_906, m_43, m_907, ⟨by decide +kernel, by decide +kernel, by decide +kernel⟩⟩
theorem iX2 : ∀ w ∈ u_ws RX2 TX2 4, w ∈ BIG := bms [380, 382, 384, 386] (by decide +kernel) (by decide +kernel)
theorem fl_X2_21_2 : fL RX2 21 2 3 := ⟨RX2, TX2, 4, "WheelAndWire$Books", rfl, rfl, by decide, by decide, m_378, Or.inl rfl, iX2⟩
theorem fl_X2_9_2 : fL RX2 9 2 0 := ⟨RX2, TX2, 4, "WheelAndWire$Books", rfl, rfl, by decide, by decide, m_374, Or.inl rfl, iX2⟩
theorem fp_2_3 (o : String) : fP 2 3 false o .int := ⟨RX2, TX2, 4, tyX2, rfl, tyX2_ok, nmX2, rfl, fun e => Bool.noConfusion e, rfl⟩
theorem fl_X11_69_11 : fL RX11 69 11 8 := ⟨RX11, TX11, 11, "WheelAndWire", rfl, rfl, by decide, by decide, m_397, Or.inl rfl, iX11⟩
theorem fl_X11_274_2 : fL RX11 274 2 3 := ⟨RX2, TX2, 4, "WheelAndWire$Books", rfl, rfl, by decide, by decide, m_379, Or.inl rfl, iX2⟩
theorem vw_X11_277 : vW RX11 277 2 yX2_enter cX2_enter 2 none 1 := ⟨⟨_, rfl, by decide, rfl⟩, m_915, m_916, m_917, m_51, m_918, ⟨by decide +kernel, by decide +kernel, by decide +kernel⟩⟩
theorem vw_X11_279 : vW RX11 279 2 yX2_earnings cX2_earnings 4 (some .int) 1 := ⟨⟨_, rfl, by decide, rfl⟩, m_923, m_924, m_925, m_51, m_926, ⟨by decide +kernel, by decide +kernel, by decide +kernel⟩⟩
theorem vw_X2_25 : vW RX2 25 2 yX2_earnings cX2_earnings 4 (some .int) 1 := ⟨⟨_, rfl, by decide, rfl⟩, m_935, m_924, m_925, m_51, m_926, ⟨by decide +kernel, by decide +kernel, by decide +kernel⟩⟩
theorem vw_X11_282 : vW RX11 282 2 yX2_dearestOver cX2_dearestOver 5 (some .int) 0 := ⟨⟨_, rfl, by decide, rfl⟩, m_931, m_932, m_933, m_51, m_934, ⟨by decide +kernel, by decide +kernel, by decide +kernel⟩⟩
theorem fl_X2_15_2 : fL RX2 15 2 1 := ⟨RX2, TX2, 4, "WheelAndWire$Books", rfl, rfl, by decide, by decide, m_375, Or.inl rfl, iX2⟩
theorem fl_X2_18_2 : fL RX2 18 2 2 := ⟨RX2, TX2, 4, "WheelAndWire$Books", rfl, rfl, by decide, by decide, m_377, Or.inl rfl, iX2⟩
theorem vw_X11_285 : vW RX11 285 2 yX2_enterTaste cX2_enterTaste 3 none 2 := ⟨⟨_, rfl, by decide, rfl⟩, m_940, m_941, m_942, m_51, m_943, ⟨by decide +kernel, by decide +kernel, by decide +kernel⟩⟩
theorem fl_X11_289_2 : fL RX11 289 2 1 := ⟨RX2, TX2, 4, "WheelAndWire$Books", rfl, rfl, by decide, by decide, m_376, Or.inl rfl, iX2⟩
theorem vw_X2_31 : vW RX2 31 2 yX2_gainBelow cX2_gainBelow 2 (some .long) 1 := ⟨⟨_, rfl, by decide, rfl⟩, m_953, m_954, m_955, m_51, m_956, ⟨by decide +kernel, by decide +kernel, by decide +kernel⟩⟩
theorem vw_X11_292 : vW RX11 292 2 yX2_gainAbove cX2_gainAbove 2 (some .long) 1 := ⟨⟨_, rfl, by decide, rfl⟩, m_948, m_949, m_950, m_51, m_951, ⟨by decide +kernel, by decide +kernel, by decide +kernel⟩⟩
theorem vw_X11_296 : vW RX11 296 2 yX2_gainBelow cX2_gainBelow 2 (some .long) 1 := ⟨⟨_, rfl, by decide, rfl⟩, m_958, m_954, m_955, m_51, m_956, ⟨by decide +kernel, by decide +kernel, by decide +kernel⟩⟩
theorem vw_X2_37 : vW RX2 37 2 yX2_gainAbove cX2_gainAbove 2 (some .long) 1 := ⟨⟨_, rfl, by decide, rfl⟩, m_968, m_949, m_950, m_51, m_951, ⟨by decide +kernel, by decide +kernel, by decide +kernel⟩⟩
theorem vw_X11_301 : vW RX11 301 2 yX2_dearestTastes cX2_dearestTastes 3 (some .int) 0 := ⟨⟨_, rfl, by decide, rfl⟩, m_964, m_965, m_966, m_51, m_967, ⟨by decide +kernel, by decide +kernel, by decide +kernel⟩⟩
theorem fl_X11_73_11 : fL RX11 73 11 9 := ⟨RX11, TX11, 11, "WheelAndWire", rfl, rfl, by decide, by decide, m_398, Or.inl rfl, iX11⟩
theorem fl_X11_77_11 : fL RX11 77 11 10 := ⟨RX11, TX11, 11, "WheelAndWire", rfl, rfl, by decide, by decide, m_399, Or.inl rfl, iX11⟩
theorem fp_11_9 (o : String) : fP 11 9 false o .int := ⟨RX11, TX11, 11, tyX11, rfl, tyX11_ok, nmX11, rfl, fun e => Bool.noConfusion e, rfl⟩
theorem fp_11_10 (o : String) : fP 11 10 false o .int := ⟨RX11, TX11, 11, tyX11, rfl, tyX11_ok, nmX11, rfl, fun e => Bool.noConfusion e, rfl⟩
theorem fl_X11_304_1 : fL RX11 304 1 3 := ⟨RX1, TX1, 6, "WheelAndWire$Board", rfl, rfl, by decide, by decide, m_225, Or.inl rfl, iX1⟩
theorem vw_X11_305 : vW RX11 305 1 yX1_become cX1_become 3 none 1 := ⟨⟨_, rfl, by decide, rfl⟩, m_981, m_982, m_983, m_43, m_984, ⟨by decide +kernel, by decide +kernel, by decide +kernel⟩⟩
theorem vw_X11_309 : vW RX11 309 1 yX1_standing cX1_standing 3 (some .int) 0 := ⟨⟨_, rfl, by decide, rfl⟩, m_985, m_986, m_987, m_43, m_988, ⟨by decide +kernel, by decide +kernel, by decide +kernel⟩⟩
theorem iX12 : ∀ w ∈ u_ws RX12 TX12 47, w ∈ BIG := bms [1050, 1052, 1054, 1056, 1058, 1060, 1062, 1064, 1066, 1068, 1070, 1072, 1074, 1076, 1078, 1080, 1082, 1084, 1086, 1088, 1090, 1092, 1094, 1096, 1098, 1100, 1102, 1104, 1106, 1108, 1110, 1112, 1114, 1116, 1118, 1120, 1122, 1124, 1126, 1128, 1130, 1132, 1134, 1136, 1138, 1140, 1142] (by decide +kernel) (by decide +kernel)
theorem fl_X12_1_8 : fL RX12 1 8 0 := ⟨RX12, TX12, 47, "WheelAndWireModel", rfl, rfl, by decide, by decide, m_1003, Or.inl rfl, iX12⟩
theorem fp_8_0 (o : String) : fP 8 0 false o .int := ⟨RX12, TX12, 47, tyX12, rfl, tyX12_ok, nmX12, rfl, fun e => Bool.noConfusion e, rfl⟩
theorem sw_X12_113 : sW RX12 113 yX12_in cX12_in 6 (some .boolean) 3 := ⟨rfl, m_1151, m_1152, m_52, m_1153, ⟨by decide +kernel, by decide +kernel, by decide +kernel⟩⟩
theorem fl_X12_117_8 : fL RX12 117 8 2 := ⟨RX12, TX12, 47, "WheelAndWireModel", rfl, rfl, by decide, by decide, m_1005, Or.inl rfl, iX12⟩
theorem fl_X12_13_8 : fL RX12 13 8 1 := ⟨RX12, TX12, 47, "WheelAndWireModel", rfl, rfl, by decide, by decide, m_1004, Or.inl rfl, iX12⟩
theorem fp_8_2 (o : String) : fP 8 2 false o .int := ⟨RX12, TX12, 47, tyX12, rfl, tyX12_ok, nmX12, rfl, fun e => Bool.noConfusion e, rfl⟩
theorem fl_X12_120_8 : fL RX12 120 8 7 := ⟨RX12, TX12, 47, "WheelAndWireModel", rfl, rfl, by decide, by decide, m_1010, Or.inl rfl, iX12⟩
theorem fp_8_7 (o : String) : fP 8 7 false o .int := ⟨RX12, TX12, 47, tyX12, rfl, tyX12_ok, nmX12, rfl, fun e => Bool.noConfusion e, rfl⟩
theorem fl_X12_123_8 : fL RX12 123 8 8 := ⟨RX12, TX12, 47, "WheelAndWireModel", rfl, rfl, by decide, by decide, m_1011, Or.inl rfl, iX12⟩
theorem fp_8_8 (o : String) : fP 8 8 false o .int := ⟨RX12, TX12, 47, tyX12, rfl, tyX12_ok, nmX12, rfl, fun e => Bool.noConfusion e, rfl⟩
theorem sw_X12_126 : sW RX12 126 yX12_kind cX12_kind 1 (some .int) 1 := ⟨rfl, m_1166, m_1167, m_52, m_1168, ⟨by decide +kernel, by decide +kernel, by decide +kernel⟩⟩
theorem fl_X12_26_8 : fL RX12 26 8 6 := ⟨RX12, TX12, 47, "WheelAndWireModel", rfl, rfl, by decide, by decide, m_1009, Or.inl rfl, iX12⟩
theorem vw_X12_130 : vW RX12 130 8 yX12_readForm cX12_readForm 5 (some .int) 0 := ⟨⟨_, rfl, by decide, rfl⟩, m_1162, m_1164, m_0, m_52, m_1165, ⟨by decide +kernel, by decide +kernel, by decide +kernel⟩⟩
theorem fl_X12_29_8 : fL RX12 29 8 9 := ⟨RX12, TX12, 47, "WheelAndWireModel", rfl, rfl, by decide, by decide, m_1012, Or.inl rfl, iX12⟩
theorem fp_8_9 (o : String) : fP 8 9 false o .int := ⟨RX12, TX12, 47, tyX12, rfl, tyX12_ok, nmX12, rfl, fun e => Bool.noConfusion e, rfl⟩
theorem fl_X12_32_8 : fL RX12 32 8 10 := ⟨RX12, TX12, 47, "WheelAndWireModel", rfl, rfl, by decide, by decide, m_1013, Or.inl rfl, iX12⟩
theorem fl_X12_35_8 : fL RX12 35 8 11 := ⟨RX12, TX12, 47, "WheelAndWireModel", rfl, rfl, by decide, by decide, m_1014, Or.inl rfl, iX12⟩
theorem fl_X12_38_8 : fL RX12 38 8 12 := ⟨RX12, TX12, 47, "WheelAndWireModel", rfl, rfl, by decide, by decide, m_1015, Or.inl rfl, iX12⟩
theorem fl_X12_20_8 : fL RX12 20 8 4 := ⟨RX12, TX12, 47, "WheelAndWireModel", rfl, rfl, by decide, by decide, m_1007, Or.inl rfl, iX12⟩
theorem fl_X12_41_8 : fL RX12 41 8 13 := ⟨RX12, TX12, 47, "WheelAndWireModel", rfl, rfl, by decide, by decide, m_1016, Or.inl rfl, iX12⟩
theorem fl_X12_23_8 : fL RX12 23 8 5 := ⟨RX12, TX12, 47, "WheelAndWireModel", rfl, rfl, by decide, by decide, m_1008, Or.inl rfl, iX12⟩
theorem fl_X12_44_8 : fL RX12 44 8 14 := ⟨RX12, TX12, 47, "WheelAndWireModel", rfl, rfl, by decide, by decide, m_1017, Or.inl rfl, iX12⟩
theorem fl_X12_47_8 : fL RX12 47 8 15 := ⟨RX12, TX12, 47, "WheelAndWireModel", rfl, rfl, by decide, by decide, m_1018, Or.inl rfl, iX12⟩
theorem fl_X12_50_8 : fL RX12 50 8 16 := ⟨RX12, TX12, 47, "WheelAndWireModel", rfl, rfl, by decide, by decide, m_1019, Or.inl rfl, iX12⟩
theorem fl_X12_53_8 : fL RX12 53 8 17 := ⟨RX12, TX12, 47, "WheelAndWireModel", rfl, rfl, by decide, by decide, m_1020, Or.inl rfl, iX12⟩
theorem fl_X12_134_8 : fL RX12 134 8 18 := ⟨RX12, TX12, 47, "WheelAndWireModel", rfl, rfl, by decide, by decide, m_1021, Or.inl rfl, iX12⟩
theorem fp_8_18 (o : String) : fP 8 18 false o .int := ⟨RX12, TX12, 47, tyX12, rfl, tyX12_ok, nmX12, rfl, fun e => Bool.noConfusion e, rfl⟩
theorem fl_X12_62_8 : fL RX12 62 8 21 := ⟨RX12, TX12, 47, "WheelAndWireModel", rfl, rfl, by decide, by decide, m_1024, Or.inl rfl, iX12⟩
theorem fl_X12_137_8 : fL RX12 137 8 35 := ⟨RX12, TX12, 47, "WheelAndWireModel", rfl, rfl, by decide, by decide, m_1038, Or.inl rfl, iX12⟩
theorem fp_8_35 (o : String) : fP 8 35 false o .int := ⟨RX12, TX12, 47, tyX12, rfl, tyX12_ok, nmX12, rfl, fun e => Bool.noConfusion e, rfl⟩
theorem fp_8_4 (o : String) : fP 8 4 false o .int := ⟨RX12, TX12, 47, tyX12, rfl, tyX12_ok, nmX12, rfl, fun e => Bool.noConfusion e, rfl⟩
theorem fp_8_5 (o : String) : fP 8 5 false o .int := ⟨RX12, TX12, 47, tyX12, rfl, tyX12_ok, nmX12, rfl, fun e => Bool.noConfusion e, rfl⟩
theorem fl_X12_17_8 : fL RX12 17 8 3 := ⟨RX12, TX12, 47, "WheelAndWireModel", rfl, rfl, by decide, by decide, m_1006, Or.inl rfl, iX12⟩
theorem vw_X12_140 : vW RX12 140 8 yX12_begin cX12_begin 2 none 0 := ⟨⟨_, rfl, by decide, rfl⟩, m_1173, m_1175, m_1, m_52, m_1176, ⟨by decide +kernel, by decide +kernel, by decide +kernel⟩⟩
theorem vw_X12_143 : vW RX12 143 8 yX12_noPiece cX12_noPiece 2 (some .boolean) 1 := ⟨⟨_, rfl, by decide, rfl⟩, m_1189, m_1191, m_3, m_52, m_1192, ⟨by decide +kernel, by decide +kernel, by decide +kernel⟩⟩
theorem vw_X12_151 : vW RX12 151 8 yX12_weightOf cX12_weightOf 9 (some .int) 4 := ⟨⟨_, rfl, by decide, rfl⟩, m_1201, m_1203, m_6, m_52, m_1204, ⟨by decide +kernel, by decide +kernel, by decide +kernel⟩⟩
theorem vw_X12_165 : vW RX12 165 8 yX12_offAhead cX12_offAhead 6 (some .int) 3 := ⟨⟨_, rfl, by decide, rfl⟩, m_1197, m_1199, m_5, m_52, m_1200, ⟨by decide +kernel, by decide +kernel, by decide +kernel⟩⟩
theorem vw_X12_161 : vW RX12 161 8 yX12_driedAhead cX12_driedAhead 5 (some .int) 4 := ⟨⟨_, rfl, by decide, rfl⟩, m_1205, m_1207, m_7, m_52, m_1208, ⟨by decide +kernel, by decide +kernel, by decide +kernel⟩⟩
theorem vw_X12_179 : vW RX12 179 8 yX12_noStand cX12_noStand 2 (some .boolean) 1 := ⟨⟨_, rfl, by decide, rfl⟩, m_1185, m_1187, m_2, m_52, m_1188, ⟨by decide +kernel, by decide +kernel, by decide +kernel⟩⟩
theorem vw_X12_182 : vW RX12 182 8 yX12_makeCut cX12_makeCut 9 (some .int) 3 := ⟨⟨_, rfl, by decide, rfl⟩, m_1193, m_1195, m_4, m_52, m_1196, ⟨by decide +kernel, by decide +kernel, by decide +kernel⟩⟩
theorem vw_X12_147 : vW RX12 147 8 yX12_face cX12_face 4 (some .int) 2 := ⟨⟨_, rfl, by decide, rfl⟩, m_1221, m_1223, m_10, m_52, m_1224, ⟨by decide +kernel, by decide +kernel, by decide +kernel⟩⟩
theorem vw_X12_172 : vW RX12 172 8 yX12_countOf cX12_countOf 9 (some .int) 5 := ⟨⟨_, rfl, by decide, rfl⟩, m_1213, m_1215, m_8, m_52, m_1216, ⟨by decide +kernel, by decide +kernel, by decide +kernel⟩⟩
theorem vw_X12_185 : vW RX12 185 8 yX12_edges cX12_edges 4 (some .int) 1 := ⟨⟨_, rfl, by decide, rfl⟩, m_1217, m_1219, m_9, m_52, m_1220, ⟨by decide +kernel, by decide +kernel, by decide +kernel⟩⟩
theorem vw_X12_155 : vW RX12 155 8 yX12_allDried cX12_allDried 4 (some .int) 1 := ⟨⟨_, rfl, by decide, rfl⟩, m_1225, m_1227, m_11, m_52, m_1228, ⟨by decide +kernel, by decide +kernel, by decide +kernel⟩⟩
theorem vw_X12_188 : vW RX12 188 8 yX12_isEnd cX12_isEnd 4 (some .boolean) 1 := ⟨⟨_, rfl, by decide, rfl⟩, m_1229, m_1231, m_12, m_52, m_1232, ⟨by decide +kernel, by decide +kernel, by decide +kernel⟩⟩
theorem sw_X12_158 : sW RX12 158 yX12_more cX12_more 1 (some .int) 1 := ⟨rfl, m_1241, m_1242, m_52, m_1243, ⟨by decide +kernel, by decide +kernel, by decide +kernel⟩⟩
theorem vw_X12_191 : vW RX12 191 8 yX12_weighsOf cX12_weighsOf 2 (some .int) 1 := ⟨⟨_, rfl, by decide, rfl⟩, m_1237, m_1239, m_13, m_52, m_1240, ⟨by decide +kernel, by decide +kernel, by decide +kernel⟩⟩
theorem sw_X12_204 : sW RX12 204 yX12_noAsk cX12_noAsk 3 (some .boolean) 3 := ⟨rfl, m_1266, m_1267, m_52, m_1268, ⟨by decide +kernel, by decide +kernel, by decide +kernel⟩⟩
theorem vw_X12_208 : vW RX12 208 8 yX12_isServed cX12_isServed 5 (some .boolean) 4 := ⟨⟨_, rfl, by decide, rfl⟩, m_1272, m_1274, m_14, m_52, m_1275, ⟨by decide +kernel, by decide +kernel, by decide +kernel⟩⟩
theorem vw_X12_212 : vW RX12 212 8 yX12_standsFor cX12_standsFor 7 (some .int) 3 := ⟨⟨_, rfl, by decide, rfl⟩, m_1280, m_1282, m_15, m_52, m_1283, ⟨by decide +kernel, by decide +kernel, by decide +kernel⟩⟩
theorem fl_X12_169_8 : fL RX12 169 8 22 := ⟨RX12, TX12, 47, "WheelAndWireModel", rfl, rfl, by decide, by decide, m_1025, Or.inl rfl, iX12⟩
theorem fp_8_22 (o : String) : fP 8 22 false o .int := ⟨RX12, TX12, 47, tyX12, rfl, tyX12_ok, nmX12, rfl, fun e => Bool.noConfusion e, rfl⟩
theorem fl_X12_176_8 : fL RX12 176 8 23 := ⟨RX12, TX12, 47, "WheelAndWireModel", rfl, rfl, by decide, by decide, m_1026, Or.inl rfl, iX12⟩
theorem fp_8_23 (o : String) : fP 8 23 false o .int := ⟨RX12, TX12, 47, tyX12, rfl, tyX12_ok, nmX12, rfl, fun e => Bool.noConfusion e, rfl⟩
theorem vw_X12_216 : vW RX12 216 8 yX12_layPart cX12_layPart 13 none 4 := ⟨⟨_, rfl, by decide, rfl⟩, m_1297, m_1299, m_18, m_52, m_1300, ⟨by decide +kernel, by decide +kernel, by decide +kernel⟩⟩
theorem fl_X12_220_8 : fL RX12 220 8 24 := ⟨RX12, TX12, 47, "WheelAndWireModel", rfl, rfl, by decide, by decide, m_1027, Or.inl rfl, iX12⟩
theorem fp_8_24 (o : String) : fP 8 24 false o .int := ⟨RX12, TX12, 47, tyX12, rfl, tyX12_ok, nmX12, rfl, fun e => Bool.noConfusion e, rfl⟩
theorem fl_X12_224_8 : fL RX12 224 8 25 := ⟨RX12, TX12, 47, "WheelAndWireModel", rfl, rfl, by decide, by decide, m_1028, Or.inl rfl, iX12⟩
theorem fp_8_25 (o : String) : fP 8 25 false o .int := ⟨RX12, TX12, 47, tyX12, rfl, tyX12_ok, nmX12, rfl, fun e => Bool.noConfusion e, rfl⟩
theorem vw_X12_227 : vW RX12 227 8 yX12_isPart cX12_isPart 8 (some .boolean) 7 := ⟨⟨_, rfl, by decide, rfl⟩, m_1293, m_1295, m_17, m_52, m_1296, ⟨by decide +kernel, by decide +kernel, by decide +kernel⟩⟩
theorem vw_X12_231 : vW RX12 231 8 yX12_findCut cX12_findCut 10 none 3 := ⟨⟨_, rfl, by decide, rfl⟩, m_1288, m_1290, m_16, m_52, m_1291, ⟨by decide +kernel, by decide +kernel, by decide +kernel⟩⟩
theorem vw_X12_235 : vW RX12 235 8 yX12_make cX12_make 5 (some .int) 1 := ⟨⟨_, rfl, by decide, rfl⟩, m_1305, m_1307, m_19, m_52, m_1308, ⟨by decide +kernel, by decide +kernel, by decide +kernel⟩⟩
theorem fl_X12_56_8 : fL RX12 56 8 19 := ⟨RX12, TX12, 47, "WheelAndWireModel", rfl, rfl, by decide, by decide, m_1022, Or.inl rfl, iX12⟩
theorem fl_X12_238_8 : fL RX12 238 8 45 := ⟨RX12, TX12, 47, "WheelAndWireModel", rfl, rfl, by decide, by decide, m_1048, Or.inl rfl, iX12⟩
theorem fp_8_45 (o : String) : fP 8 45 false o .int := ⟨RX12, TX12, 47, tyX12, rfl, tyX12_ok, nmX12, rfl, fun e => Bool.noConfusion e, rfl⟩
theorem fl_X12_241_8 : fL RX12 241 8 46 := ⟨RX12, TX12, 47, "WheelAndWireModel", rfl, rfl, by decide, by decide, m_1049, Or.inl rfl, iX12⟩
theorem fp_8_46 (o : String) : fP 8 46 false o .int := ⟨RX12, TX12, 47, tyX12, rfl, tyX12_ok, nmX12, rfl, fun e => Bool.noConfusion e, rfl⟩
theorem vw_X12_244 : vW RX12 244 8 yX12_putAside cX12_putAside 4 none 0 := ⟨⟨_, rfl, by decide, rfl⟩, m_1317, m_1319, m_21, m_52, m_1320, ⟨by decide +kernel, by decide +kernel, by decide +kernel⟩⟩
theorem vw_X12_247 : vW RX12 247 8 yX12_second cX12_second 4 (some .int) 3 := ⟨⟨_, rfl, by decide, rfl⟩, m_1321, m_1323, m_22, m_52, m_1324, ⟨by decide +kernel, by decide +kernel, by decide +kernel⟩⟩
theorem vw_X12_250 : vW RX12 250 8 yX12_keepTwo cX12_keepTwo 3 none 2 := ⟨⟨_, rfl, by decide, rfl⟩, m_1325, m_1327, m_23, m_52, m_1328, ⟨by decide +kernel, by decide +kernel, by decide +kernel⟩⟩
theorem vw_X12_254 : vW RX12 254 8 yX12_takeBack cX12_takeBack 4 none 0 := ⟨⟨_, rfl, by decide, rfl⟩, m_1329, m_1331, m_24, m_52, m_1332, ⟨by decide +kernel, by decide +kernel, by decide +kernel⟩⟩
theorem vw_X12_258 : vW RX12 258 8 yX12_findTwo cX12_findTwo 12 none 5 := ⟨⟨_, rfl, by decide, rfl⟩, m_1313, m_1315, m_20, m_52, m_1316, ⟨by decide +kernel, by decide +kernel, by decide +kernel⟩⟩
theorem fl_X12_262_8 : fL RX12 262 8 26 := ⟨RX12, TX12, 47, "WheelAndWireModel", rfl, rfl, by decide, by decide, m_1029, Or.inl rfl, iX12⟩
theorem fl_X12_66_8 : fL RX12 66 8 27 := ⟨RX12, TX12, 47, "WheelAndWireModel", rfl, rfl, by decide, by decide, m_1030, Or.inl rfl, iX12⟩
theorem fl_X12_69_8 : fL RX12 69 8 28 := ⟨RX12, TX12, 47, "WheelAndWireModel", rfl, rfl, by decide, by decide, m_1031, Or.inl rfl, iX12⟩
theorem fl_X12_72_8 : fL RX12 72 8 29 := ⟨RX12, TX12, 47, "WheelAndWireModel", rfl, rfl, by decide, by decide, m_1032, Or.inl rfl, iX12⟩
theorem fp_8_26 (o : String) : fP 8 26 false o .int := ⟨RX12, TX12, 47, tyX12, rfl, tyX12_ok, nmX12, rfl, fun e => Bool.noConfusion e, rfl⟩
theorem fl_X12_75_8 : fL RX12 75 8 30 := ⟨RX12, TX12, 47, "WheelAndWireModel", rfl, rfl, by decide, by decide, m_1033, Or.inl rfl, iX12⟩
theorem sw_X12_265 : sW RX12 265 yX12_block cX12_block 4 (some .int) 4 := ⟨rfl, m_1362, m_1363, m_52, m_1364, ⟨by decide +kernel, by decide +kernel, by decide +kernel⟩⟩
theorem fl_X12_78_8 : fL RX12 78 8 31 := ⟨RX12, TX12, 47, "WheelAndWireModel", rfl, rfl, by decide, by decide, m_1034, Or.inl rfl, iX12⟩
theorem fl_X12_268_8 : fL RX12 268 8 34 := ⟨RX12, TX12, 47, "WheelAndWireModel", rfl, rfl, by decide, by decide, m_1037, Or.inl rfl, iX12⟩
theorem fp_8_34 (o : String) : fP 8 34 false o .int := ⟨RX12, TX12, 47, tyX12, rfl, tyX12_ok, nmX12, rfl, fun e => Bool.noConfusion e, rfl⟩
theorem fl_X12_81_8 : fL RX12 81 8 32 := ⟨RX12, TX12, 47, "WheelAndWireModel", rfl, rfl, by decide, by decide, m_1035, Or.inl rfl, iX12⟩
theorem vw_X12_271 : vW RX12 271 8 yX12_layBlocks cX12_layBlocks 5 none 0 := ⟨⟨_, rfl, by decide, rfl⟩, m_1358, m_1360, m_27, m_52, m_1361, ⟨by decide +kernel, by decide +kernel, by decide +kernel⟩⟩
theorem vw_X12_278 : vW RX12 278 8 yX12_bestWire cX12_bestWire 13 (some .int) 5 := ⟨⟨_, rfl, by decide, rfl⟩, m_1369, m_1371, m_29, m_52, m_1372, ⟨by decide +kernel, by decide +kernel, by decide +kernel⟩⟩
theorem vw_X12_274 : vW RX12 274 8 yX12_isAsk cX12_isAsk 3 (some .boolean) 2 := ⟨⟨_, rfl, by decide, rfl⟩, m_1365, m_1367, m_28, m_52, m_1368, ⟨by decide +kernel, by decide +kernel, by decide +kernel⟩⟩
theorem vw_X12_281 : vW RX12 281 8 yX12_layWires cX12_layWires 8 none 0 := ⟨⟨_, rfl, by decide, rfl⟩, m_1354, m_1356, m_26, m_52, m_1357, ⟨by decide +kernel, by decide +kernel, by decide +kernel⟩⟩
theorem vw_X12_284 : vW RX12 284 8 yX12_wholeWire cX12_wholeWire 1 (some .int) 0 := ⟨⟨_, rfl, by decide, rfl⟩, m_1350, m_1352, m_25, m_52, m_1353, ⟨by decide +kernel, by decide +kernel, by decide +kernel⟩⟩
theorem fl_X12_87_8 : fL RX12 87 8 36 := ⟨RX12, TX12, 47, "WheelAndWireModel", rfl, rfl, by decide, by decide, m_1039, Or.inl rfl, iX12⟩
theorem sw_X12_298 : sW RX12 298 yX12_meets cX12_meets 3 (some .boolean) 2 := ⟨rfl, m_1389, m_1390, m_52, m_1391, ⟨by decide +kernel, by decide +kernel, by decide +kernel⟩⟩
theorem fl_X12_84_8 : fL RX12 84 8 33 := ⟨RX12, TX12, 47, "WheelAndWireModel", rfl, rfl, by decide, by decide, m_1036, Or.inl rfl, iX12⟩
theorem vw_X12_287 : vW RX12 287 8 yX12_goesThrough cX12_goesThrough 11 (some .boolean) 6 := ⟨⟨_, rfl, by decide, rfl⟩, m_1385, m_1387, m_31, m_52, m_1388, ⟨by decide +kernel, by decide +kernel, by decide +kernel⟩⟩
theorem vw_X12_291 : vW RX12 291 8 yX12_bestOf cX12_bestOf 14 (some .int) 6 := ⟨⟨_, rfl, by decide, rfl⟩, m_1381, m_1383, m_30, m_52, m_1384, ⟨by decide +kernel, by decide +kernel, by decide +kernel⟩⟩
theorem vw_X12_295 : vW RX12 295 8 yX12_noBlock cX12_noBlock 6 (some .boolean) 1 := ⟨⟨_, rfl, by decide, rfl⟩, m_1396, m_1398, m_32, m_52, m_1399, ⟨by decide +kernel, by decide +kernel, by decide +kernel⟩⟩
theorem fl_X12_90_8 : fL RX12 90 8 37 := ⟨RX12, TX12, 47, "WheelAndWireModel", rfl, rfl, by decide, by decide, m_1040, Or.inl rfl, iX12⟩
theorem fl_X12_93_8 : fL RX12 93 8 38 := ⟨RX12, TX12, 47, "WheelAndWireModel", rfl, rfl, by decide, by decide, m_1041, Or.inl rfl, iX12⟩
theorem fp_8_37 (o : String) : fP 8 37 false o .int := ⟨RX12, TX12, 47, tyX12, rfl, tyX12_ok, nmX12, rfl, fun e => Bool.noConfusion e, rfl⟩
theorem fp_8_38 (o : String) : fP 8 38 false o .int := ⟨RX12, TX12, 47, tyX12, rfl, tyX12_ok, nmX12, rfl, fun e => Bool.noConfusion e, rfl⟩
theorem sw_X12_303 : sW RX12 303 yX12_lesser cX12_lesser 2 (some .int) 2 := ⟨rfl, m_1431, m_1432, m_52, m_1433, ⟨by decide +kernel, by decide +kernel, by decide +kernel⟩⟩
theorem vw_X12_306 : vW RX12 306 8 yX12_isRipe cX12_isRipe 6 (some .boolean) 3 := ⟨⟨_, rfl, by decide, rfl⟩, m_1427, m_1429, m_35, m_52, m_1430, ⟨by decide +kernel, by decide +kernel, by decide +kernel⟩⟩
theorem vw_X12_313 : vW RX12 313 8 yX12_paste cX12_paste 2 (some .int) 1 := ⟨⟨_, rfl, by decide, rfl⟩, m_1419, m_1421, m_33, m_52, m_1422, ⟨by decide +kernel, by decide +kernel, by decide +kernel⟩⟩
theorem vw_X12_316 : vW RX12 316 8 yX12_ripeIn cX12_ripeIn 6 (some .int) 2 := ⟨⟨_, rfl, by decide, rfl⟩, m_1423, m_1425, m_34, m_52, m_1426, ⟨by decide +kernel, by decide +kernel, by decide +kernel⟩⟩
theorem sw_X12_319 : sW RX12 319 yX12_common cX12_common 10 (some .long) 2 := ⟨rfl, m_1434, m_1435, m_52, m_1436, ⟨by decide +kernel, by decide +kernel, by decide +kernel⟩⟩
theorem fl_X12_323_8 : fL RX12 323 8 39 := ⟨RX12, TX12, 47, "WheelAndWireModel", rfl, rfl, by decide, by decide, m_1042, Or.inl rfl, iX12⟩
theorem fl_X12_96_8 : fL RX12 96 8 40 := ⟨RX12, TX12, 47, "WheelAndWireModel", rfl, rfl, by decide, by decide, m_1043, Or.inl rfl, iX12⟩
theorem fp_8_39 (o : String) : fP 8 39 false o .int := ⟨RX12, TX12, 47, tyX12, rfl, tyX12_ok, nmX12, rfl, fun e => Bool.noConfusion e, rfl⟩
theorem vw_X12_326 : vW RX12 326 8 yX12_earns cX12_earns 4 (some .int) 1 := ⟨⟨_, rfl, by decide, rfl⟩, m_1449, m_1451, m_36, m_52, m_1452, ⟨by decide +kernel, by decide +kernel, by decide +kernel⟩⟩
theorem fl_X12_99_8 : fL RX12 99 8 41 := ⟨RX12, TX12, 47, "WheelAndWireModel", rfl, rfl, by decide, by decide, m_1044, Or.inl rfl, iX12⟩
theorem fl_X12_102_8 : fL RX12 102 8 42 := ⟨RX12, TX12, 47, "WheelAndWireModel", rfl, rfl, by decide, by decide, m_1045, Or.inl rfl, iX12⟩
theorem vw_X12_331 : vW RX12 331 8 yX12_gain cX12_gain 2 (some .int) 1 := ⟨⟨_, rfl, by decide, rfl⟩, m_1466, m_1468, m_37, m_52, m_1469, ⟨by decide +kernel, by decide +kernel, by decide +kernel⟩⟩
theorem fl_X12_105_8 : fL RX12 105 8 43 := ⟨RX12, TX12, 47, "WheelAndWireModel", rfl, rfl, by decide, by decide, m_1046, Or.inl rfl, iX12⟩
theorem fl_X12_108_8 : fL RX12 108 8 44 := ⟨RX12, TX12, 47, "WheelAndWireModel", rfl, rfl, by decide, by decide, m_1047, Or.inl rfl, iX12⟩
theorem fp_8_43 (o : String) : fP 8 43 false o .int := ⟨RX12, TX12, 47, tyX12, rfl, tyX12_ok, nmX12, rfl, fun e => Bool.noConfusion e, rfl⟩
theorem fp_8_44 (o : String) : fP 8 44 false o .int := ⟨RX12, TX12, 47, tyX12, rfl, tyX12_ok, nmX12, rfl, fun e => Bool.noConfusion e, rfl⟩
theorem fl_X12_59_8 : fL RX12 59 8 20 := ⟨RX12, TX12, 47, "WheelAndWireModel", rfl, rfl, by decide, by decide, m_1023, Or.inl rfl, iX12⟩
theorem vw_X12_336 : vW RX12 336 8 yX12_standing cX12_standing 3 (some .int) 0 := ⟨⟨_, rfl, by decide, rfl⟩, m_1487, m_1489, m_38, m_52, m_1490, ⟨by decide +kernel, by decide +kernel, by decide +kernel⟩⟩
