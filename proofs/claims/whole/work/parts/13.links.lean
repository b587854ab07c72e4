/-! ===== links of calls ===== -/
set_option maxRecDepth 100000 in
theorem lk_C_87 : Cond.methodLink "FriezePolygons" 87 mr_C_isRow.1 ∈ am_tb := am_has_in (po := 377) (by decide +kernel)
set_option maxRecDepth 100000 in
theorem lk_C_92 : Cond.methodLink "FriezePolygons" 92 mr_C_found.1 ∈ am_tb := am_has_in (po := 381) (by decide +kernel)
set_option maxRecDepth 100000 in
theorem lk_C_96 : Cond.methodLink "FriezePolygons" 96 mr_Row_make.1 ∈ am_tb := am_has_in (po := 386) (by decide +kernel)
set_option maxRecDepth 100000 in
theorem lk_C_100 : Cond.methodLink "FriezePolygons" 100 mr_C_fine.1 ∈ am_tb := am_has_in (po := 393) (by decide +kernel)
set_option maxRecDepth 100000 in
theorem lk_C_103 : Cond.methodLink "FriezePolygons" 103 mr_C_troubleOf.1 ∈ am_tb := am_has_in (po := 401) (by decide +kernel)
set_option maxRecDepth 100000 in
theorem lk_C_107 : Cond.methodLink "FriezePolygons" 107 mr_Row_put.1 ∈ am_tb := am_has_in (po := 409) (by decide +kernel)
set_option maxRecDepth 100000 in
theorem lk_C_118 : Cond.methodLink "FriezePolygons" 118 mr_Row_holds.1 ∈ am_tb := am_has_in (po := 405) (by decide +kernel)
set_option maxRecDepth 100000 in
theorem lk_C_134 : Cond.methodLink "FriezePolygons" 134 mr_Tape_take.1 ∈ am_tb := am_has_in (po := 428) (by decide +kernel)
set_option maxRecDepth 100000 in
theorem lk_C_139 : Cond.methodLink "FriezePolygons" 139 mr_Tape_read.1 ∈ am_tb := am_has_in (po := 437) (by decide +kernel)
set_option maxRecDepth 100000 in
theorem lk_C_150 : Cond.methodLink "FriezePolygons" 150 mr_C_putInPlace.1 ∈ am_tb := am_has_in (po := 511) (by decide +kernel)
set_option maxRecDepth 100000 in
theorem lk_C_164 : Cond.methodLink "FriezePolygons" 164 mr_Acts_takeBack.1 ∈ am_tb := am_has_in (po := 530) (by decide +kernel)
set_option maxRecDepth 100000 in
theorem lk_C_167 : Cond.methodLink "FriezePolygons" 167 mr_Ring_numberOf.1 ∈ am_tb := am_has_in (po := 538) (by decide +kernel)
set_option maxRecDepth 100000 in
theorem lk_C_173 : Cond.methodLink "FriezePolygons" 173 mr_Ring_isFree.1 ∈ am_tb := am_has_in (po := 539) (by decide +kernel)
set_option maxRecDepth 100000 in
theorem lk_C_176 : Cond.methodLink "FriezePolygons" 176 mr_C_layCuts.1 ∈ am_tb := am_has_in (po := 540) (by decide +kernel)
set_option maxRecDepth 100000 in
theorem lk_C_180 : Cond.methodLink "FriezePolygons" 180 mr_Integer_bitCount.1 ∈ am_tb := am_has_in (po := 553) (by decide +kernel)
set_option maxRecDepth 100000 in
theorem lk_C_185 : Cond.methodLink "FriezePolygons" 185 mr_Ring_isNumber.1 ∈ am_tb := am_has_in (po := 563) (by decide +kernel)
set_option maxRecDepth 100000 in
theorem lk_C_188 : Cond.methodLink "FriezePolygons" 188 mr_Figure_hasCut.1 ∈ am_tb := am_has_in (po := 564) (by decide +kernel)
set_option maxRecDepth 100000 in
theorem lk_C_191 : Cond.methodLink "FriezePolygons" 191 mr_Ring_flippedOf.1 ∈ am_tb := am_has_in (po := 572) (by decide +kernel)
set_option maxRecDepth 100000 in
theorem lk_C_194 : Cond.methodLink "FriezePolygons" 194 mr_Ring_moved.1 ∈ am_tb := am_has_in (po := 592) (by decide +kernel)
set_option maxRecDepth 100000 in
theorem lk_C_198 : Cond.methodLink "FriezePolygons" 198 mr_C_isThere.1 ∈ am_tb := am_has_in (po := 608) (by decide +kernel)
set_option maxRecDepth 100000 in
theorem lk_C_201 : Cond.methodLink "FriezePolygons" 201 mr_C_isCorner.1 ∈ am_tb := am_has_in (po := 616) (by decide +kernel)
set_option maxRecDepth 100000 in
theorem lk_C_207 : Cond.methodLink "FriezePolygons" 207 mr_Acts_keep.1 ∈ am_tb := am_has_in (po := 544) (by decide +kernel)
set_option maxRecDepth 100000 in
theorem lk_C_214 : Cond.methodLink "FriezePolygons" 214 mr_C_refusalOfWhole.1 ∈ am_tb := am_has_in (po := 628) (by decide +kernel)
set_option maxRecDepth 100000 in
theorem lk_C_217 : Cond.methodLink "FriezePolygons" 217 mr_Ears_cutsOf.1 ∈ am_tb := am_has_in (po := 632) (by decide +kernel)
set_option maxRecDepth 100000 in
theorem lk_C_222 : Cond.methodLink "FriezePolygons" 222 mr_Figure_countOf.1 ∈ am_tb := am_has_in (po := 666) (by decide +kernel)
set_option maxRecDepth 100000 in
theorem lk_C_226 : Cond.methodLink "FriezePolygons" 226 mr_Ring_cutsAt.1 ∈ am_tb := am_has_in (po := 675) (by decide +kernel)
set_option maxRecDepth 100000 in
theorem lk_C_229 : Cond.methodLink "FriezePolygons" 229 mr_Ring_endsOf.1 ∈ am_tb := am_has_in (po := 676) (by decide +kernel)
set_option maxRecDepth 100000 in
theorem lk_C_240 : Cond.methodLink "FriezePolygons" 240 mr_Frieze_tellCounts.1 ∈ am_tb := am_has_in (po := 689) (by decide +kernel)
set_option maxRecDepth 100000 in
theorem lk_C_244 : Cond.methodLink "FriezePolygons" 244 mr_Frieze_grow.1 ∈ am_tb := am_has_in (po := 695) (by decide +kernel)
set_option maxRecDepth 100000 in
theorem lk_C_251 : Cond.methodLink "FriezePolygons" 251 mr_Frieze_closes.1 ∈ am_tb := am_has_in (po := 706) (by decide +kernel)
set_option maxRecDepth 100000 in
theorem lk_C_254 : Cond.methodLink "FriezePolygons" 254 mr_Frieze_period.1 ∈ am_tb := am_has_in (po := 711) (by decide +kernel)
set_option maxRecDepth 100000 in
theorem lk_C_258 : Cond.methodLink "FriezePolygons" 258 mr_Frieze_cornersWith.1 ∈ am_tb := am_has_in (po := 719) (by decide +kernel)
set_option maxRecDepth 100000 in
theorem lk_C_262 : Cond.methodLink "FriezePolygons" 262 mr_C_isTriangled.1 ∈ am_tb := am_has_in (po := 727) (by decide +kernel)
set_option maxRecDepth 100000 in
theorem lk_C_267 : Cond.methodLink "FriezePolygons" 267 mr_Ring_pieceAt.1 ∈ am_tb := am_has_in (po := 735) (by decide +kernel)
set_option maxRecDepth 100000 in
theorem lk_C_270 : Cond.methodLink "FriezePolygons" 270 mr_Ring_waysToTriangles.1 ∈ am_tb := am_has_in (po := 755) (by decide +kernel)
set_option maxRecDepth 100000 in
theorem lk_C_273 : Cond.methodLink "FriezePolygons" 273 mr_C_gatherLikenesses.1 ∈ am_tb := am_has_in (po := 769) (by decide +kernel)
set_option maxRecDepth 100000 in
theorem lk_C_276 : Cond.methodLink "FriezePolygons" 276 mr_C_leastOf.1 ∈ am_tb := am_has_in (po := 777) (by decide +kernel)
set_option maxRecDepth 100000 in
theorem lk_C_279 : Cond.methodLink "FriezePolygons" 279 mr_FlipSearch_fewest.1 ∈ am_tb := am_has_in (po := 786) (by decide +kernel)
set_option maxRecDepth 100000 in
theorem lk_C_283 : Cond.methodLink "FriezePolygons" 283 mr_Frieze_sumOf.1 ∈ am_tb := am_has_in (po := 807) (by decide +kernel)
set_option maxRecDepth 100000 in
theorem lk_C_286 : Cond.methodLink "FriezePolygons" 286 mr_C_kindsBy.1 ∈ am_tb := am_has_in (po := 815) (by decide +kernel)
set_option maxRecDepth 100000 in
theorem lk_C_290 : Cond.methodLink "FriezePolygons" 290 mr_C_ownBy.1 ∈ am_tb := am_has_in (po := 825) (by decide +kernel)
set_option maxRecDepth 100000 in
theorem lk_C_293 : Cond.methodLink "FriezePolygons" 293 mr_C_cutsBy.1 ∈ am_tb := am_has_in (po := 829) (by decide +kernel)
set_option maxRecDepth 100000 in
theorem lk_C_299 : Cond.methodLink "FriezePolygons" 299 mr_C_casesWithout.1 ∈ am_tb := am_has_in (po := 838) (by decide +kernel)
set_option maxRecDepth 100000 in
theorem lk_C_303 : Cond.methodLink "FriezePolygons" 303 mr_C_power.1 ∈ am_tb := am_has_in (po := 846) (by decide +kernel)
set_option maxRecDepth 100000 in
theorem lk_C_306 : Cond.methodLink "FriezePolygons" 306 mr_C_sharedBy.1 ∈ am_tb := am_has_in (po := 849) (by decide +kernel)
set_option maxRecDepth 100000 in
theorem lk_C_315 : Cond.methodLink "FriezePolygons" 315 mr_Ring_rising.1 ∈ am_tb := am_has_in (po := 859) (by decide +kernel)
set_option maxRecDepth 100000 in
theorem lk_C_318 : Cond.methodLink "FriezePolygons" 318 mr_Figure_take.1 ∈ am_tb := am_has_in (po := 515) (by decide +kernel)
set_option maxRecDepth 100000 in
theorem lk_C_320 : Cond.methodLink "FriezePolygons" 320 mr_C_isOf.1 ∈ am_tb := am_has_in (po := 879) (by decide +kernel)
set_option maxRecDepth 100000 in
theorem lk_C_323 : Cond.methodLink "FriezePolygons" 323 mr_Asks_turnTo.1 ∈ am_tb := am_has_in (po := 886) (by decide +kernel)
set_option maxRecDepth 100000 in
theorem lk_C_327 : Cond.methodLink "FriezePolygons" 327 mr_Asks_size.1 ∈ am_tb := am_has_in (po := 890) (by decide +kernel)
set_option maxRecDepth 100000 in
theorem lk_C_330 : Cond.methodLink "FriezePolygons" 330 mr_Asks_mark.1 ∈ am_tb := am_has_in (po := 926) (by decide +kernel)
set_option maxRecDepth 100000 in
theorem lk_C_339 : Cond.methodLink "FriezePolygons" 339 mr_C_rowsMade.1 ∈ am_tb := am_has_in (po := 942) (by decide +kernel)
set_option maxRecDepth 100000 in
theorem lk_C_343 : Cond.methodLink "FriezePolygons" 343 mr_Ring_layOut.1 ∈ am_tb := am_has_in (po := 520) (by decide +kernel)
set_option maxRecDepth 100000 in
theorem lk_C_346 : Cond.methodLink "FriezePolygons" 346 mr_C_noteLikeness.1 ∈ am_tb := am_has_in (po := 773) (by decide +kernel)
set_option maxRecDepth 100000 in
theorem lk_C_349 : Cond.methodLink "FriezePolygons" 349 Lib.Math.min.name ∈ am_tb := am_has_in (po := 781) (by decide +kernel)
set_option maxRecDepth 100000 in
theorem lk_C_354 : Cond.methodLink "FriezePolygons" 354 mr_Figure_countsAs.1 ∈ am_tb := am_has_in (po := 819) (by decide +kernel)
set_option maxRecDepth 100000 in
theorem lk_C_358 : Cond.methodLink "FriezePolygons" 358 mr_Ring_greatestPiece.1 ∈ am_tb := am_has_in (po := 842) (by decide +kernel)
set_option maxRecDepth 100000 in
theorem lk_Acts_25 : Cond.methodLink "FriezePolygons$Acts" 25 mr_Acts_forgetOldest.1 ∈ am_tb := am_has_in (po := 548) (by decide +kernel)
set_option maxRecDepth 100000 in
theorem lk_Asks_31 : Cond.methodLink "FriezePolygons$Asks" 31 mr_Asks_begins.1 ∈ am_tb := am_has_in (po := 894) (by decide +kernel)
set_option maxRecDepth 100000 in
theorem lk_Asks_35 : Cond.methodLink "FriezePolygons$Asks" 35 mr_Asks_body11.1 ∈ am_tb := am_has_in (po := 898) (by decide +kernel)
set_option maxRecDepth 100000 in
theorem lk_Asks_39 : Cond.methodLink "FriezePolygons$Asks" 39 mr_Asks_sizeOfFixed.1 ∈ am_tb := am_has_in (po := 918) (by decide +kernel)
set_option maxRecDepth 100000 in
theorem lk_Asks_42 : Cond.methodLink "FriezePolygons$Asks" 42 mr_Asks_body23.1 ∈ am_tb := am_has_in (po := 930) (by decide +kernel)
set_option maxRecDepth 100000 in
theorem lk_Asks_45 : Cond.methodLink "FriezePolygons$Asks" 45 mr_Asks_markOfPlain.1 ∈ am_tb := am_has_in (po := 906) (by decide +kernel)
set_option maxRecDepth 100000 in
theorem lk_Asks_48 : Cond.methodLink "FriezePolygons$Asks" 48 mr_Asks_body13.1 ∈ am_tb := am_has_in (po := 922) (by decide +kernel)
set_option maxRecDepth 100000 in
theorem lk_Asks_51 : Cond.methodLink "FriezePolygons$Asks" 51 mr_Asks_body21.1 ∈ am_tb := am_has_in (po := 910) (by decide +kernel)
set_option maxRecDepth 100000 in
theorem lk_Asks_54 : Cond.methodLink "FriezePolygons$Asks" 54 mr_Asks_body10.1 ∈ am_tb := am_has_in (po := 902) (by decide +kernel)
set_option maxRecDepth 100000 in
theorem lk_Asks_57 : Cond.methodLink "FriezePolygons$Asks" 57 mr_Asks_body20.1 ∈ am_tb := am_has_in (po := 914) (by decide +kernel)
set_option maxRecDepth 100000 in
theorem lk_Ears_25 : Cond.methodLink "FriezePolygons$Ears" 25 mr_Row_itemAt.1 ∈ am_tb := am_has_in (po := 636) (by decide +kernel)
set_option maxRecDepth 100000 in
theorem lk_Ears_31 : Cond.methodLink "FriezePolygons$Ears" 31 mr_Ears_firstEar.1 ∈ am_tb := am_has_in (po := 640) (by decide +kernel)
set_option maxRecDepth 100000 in
theorem lk_Ears_35 : Cond.methodLink "FriezePolygons$Ears" 35 mr_Ears_beside.1 ∈ am_tb := am_has_in (po := 648) (by decide +kernel)
set_option maxRecDepth 100000 in
theorem lk_Ears_39 : Cond.methodLink "FriezePolygons$Ears" 39 mr_Ears_countsLess.1 ∈ am_tb := am_has_in (po := 652) (by decide +kernel)
set_option maxRecDepth 100000 in
theorem lk_Ears_43 : Cond.methodLink "FriezePolygons$Ears" 43 mr_Ring_bitOf.1 ∈ am_tb := am_has_in (po := 656) (by decide +kernel)
set_option maxRecDepth 100000 in
theorem lk_Ears_46 : Cond.methodLink "FriezePolygons$Ears" 46 mr_Ears_isThreeOnes.1 ∈ am_tb := am_has_in (po := 657) (by decide +kernel)
set_option maxRecDepth 100000 in
theorem lk_Ears_50 : Cond.methodLink "FriezePolygons$Ears" 50 mr_Ears_isLeft.1 ∈ am_tb := am_has_in (po := 644) (by decide +kernel)
set_option maxRecDepth 100000 in
theorem lk_Figure_31 : Cond.methodLink "FriezePolygons$Figure" 31 mr_Ring_cutsAt.1 ∈ am_tb := am_has_in (po := 670) (by decide +kernel)
set_option maxRecDepth 100000 in
theorem lk_Figure_37 : Cond.methodLink "FriezePolygons$Figure" 37 mr_Figure_countOf.1 ∈ am_tb := am_has_in (po := 823) (by decide +kernel)
set_option maxRecDepth 100000 in
theorem lk_Figure_41 : Cond.methodLink "FriezePolygons$Figure" 41 mr_Row_itemAt.1 ∈ am_tb := am_has_in (po := 824) (by decide +kernel)
set_option maxRecDepth 100000 in
theorem lk_FlipSearch_22 : Cond.methodLink "FriezePolygons$FlipSearch" 22 mr_Arrays_fill.1 ∈ am_tb := am_has_in (po := 790) (by decide +kernel)
set_option maxRecDepth 100000 in
theorem lk_FlipSearch_28 : Cond.methodLink "FriezePolygons$FlipSearch" 28 mr_FlipSearch_meet.1 ∈ am_tb := am_has_in (po := 791) (by decide +kernel)
set_option maxRecDepth 100000 in
theorem lk_FlipSearch_32 : Cond.methodLink "FriezePolygons$FlipSearch" 32 mr_FlipSearch_meetAround.1 ∈ am_tb := am_has_in (po := 796) (by decide +kernel)
set_option maxRecDepth 100000 in
theorem lk_FlipSearch_37 : Cond.methodLink "FriezePolygons$FlipSearch" 37 mr_Ring_joinCorners.1 ∈ am_tb := am_has_in (po := 800) (by decide +kernel)
set_option maxRecDepth 100000 in
theorem lk_FlipSearch_45 : Cond.methodLink "FriezePolygons$FlipSearch" 45 mr_Ring_flippedAsJoined.1 ∈ am_tb := am_has_in (po := 801) (by decide +kernel)
set_option maxRecDepth 100000 in
theorem lk_Frieze_26 : Cond.methodLink "FriezePolygons$Frieze" 26 Lib.Math.min.name ∈ am_tb := am_has_in (po := 693) (by decide +kernel)
set_option maxRecDepth 100000 in
theorem lk_Frieze_32 : Cond.methodLink "FriezePolygons$Frieze" 32 mr_Figure_countOf.1 ∈ am_tb := am_has_in (po := 694) (by decide +kernel)
set_option maxRecDepth 100000 in
theorem lk_Frieze_36 : Cond.methodLink "FriezePolygons$Frieze" 36 mr_Frieze_isWithin.1 ∈ am_tb := am_has_in (po := 699) (by decide +kernel)
set_option maxRecDepth 100000 in
theorem lk_Frieze_40 : Cond.methodLink "FriezePolygons$Frieze" 40 mr_Frieze_grow.1 ∈ am_tb := am_has_in (po := 710) (by decide +kernel)
set_option maxRecDepth 100000 in
theorem lk_Frieze_44 : Cond.methodLink "FriezePolygons$Frieze" 44 mr_Frieze_isSameTurned.1 ∈ am_tb := am_has_in (po := 715) (by decide +kernel)
set_option maxRecDepth 100000 in
theorem lk_Frieze_48 : Cond.methodLink "FriezePolygons$Frieze" 48 mr_Frieze_hasSuch.1 ∈ am_tb := am_has_in (po := 723) (by decide +kernel)
set_option maxRecDepth 100000 in
theorem lk_Ring_34 : Cond.methodLink "FriezePolygons$Ring" 34 Lib.Math.min.name ∈ am_tb := am_has_in (po := 479) (by decide +kernel)
set_option maxRecDepth 100000 in
theorem lk_Ring_40 : Cond.methodLink "FriezePolygons$Ring" 40 mr_Arrays_fill.1 ∈ am_tb := am_has_in (po := 482) (by decide +kernel)
set_option maxRecDepth 100000 in
theorem lk_Ring_46 : Cond.methodLink "FriezePolygons$Ring" 46 mr_Ring_isCut.1 ∈ am_tb := am_has_in (po := 483) (by decide +kernel)
set_option maxRecDepth 100000 in
theorem lk_Ring_50 : Cond.methodLink "FriezePolygons$Ring" 50 mr_Ring_crossing.1 ∈ am_tb := am_has_in (po := 487) (by decide +kernel)
set_option maxRecDepth 100000 in
theorem lk_Ring_53 : Cond.methodLink "FriezePolygons$Ring" 53 Lib.Math.max.name ∈ am_tb := am_has_in (po := 499) (by decide +kernel)
set_option maxRecDepth 100000 in
theorem lk_Ring_56 : Cond.methodLink "FriezePolygons$Ring" 56 mr_Ring_numberOf.1 ∈ am_tb := am_has_in (po := 587) (by decide +kernel)
set_option maxRecDepth 100000 in
theorem lk_Ring_59 : Cond.methodLink "FriezePolygons$Ring" 59 mr_Ring_isNumber.1 ∈ am_tb := am_has_in (po := 506) (by decide +kernel)
set_option maxRecDepth 100000 in
theorem lk_Ring_63 : Cond.methodLink "FriezePolygons$Ring" 63 mr_Integer_bitCount.1 ∈ am_tb := am_has_in (po := 674) (by decide +kernel)
set_option maxRecDepth 100000 in
theorem lk_Ring_69 : Cond.methodLink "FriezePolygons$Ring" 69 mr_Ring_movedCorner.1 ∈ am_tb := am_has_in (po := 596) (by decide +kernel)
set_option maxRecDepth 100000 in
theorem lk_Ring_73 : Cond.methodLink "FriezePolygons$Ring" 73 mr_Ring_bitOf.1 ∈ am_tb := am_has_in (po := 600) (by decide +kernel)
set_option maxRecDepth 100000 in
theorem lk_Ring_76 : Cond.methodLink "FriezePolygons$Ring" 76 mr_Ring_joinCorners.1 ∈ am_tb := am_has_in (po := 576) (by decide +kernel)
set_option maxRecDepth 100000 in
theorem lk_Ring_80 : Cond.methodLink "FriezePolygons$Ring" 80 mr_Ring_flippedAsJoined.1 ∈ am_tb := am_has_in (po := 580) (by decide +kernel)
set_option maxRecDepth 100000 in
theorem lk_Ring_83 : Cond.methodLink "FriezePolygons$Ring" 83 mr_Ring_lowestOf.1 ∈ am_tb := am_has_in (po := 584) (by decide +kernel)
set_option maxRecDepth 100000 in
theorem lk_Ring_89 : Cond.methodLink "FriezePolygons$Ring" 89 mr_Ring_sizeUnder.1 ∈ am_tb := am_has_in (po := 761) (by decide +kernel)
set_option maxRecDepth 100000 in
theorem lk_Ring_92 : Cond.methodLink "FriezePolygons$Ring" 92 mr_Ring_pieceUnder.1 ∈ am_tb := am_has_in (po := 739) (by decide +kernel)
set_option maxRecDepth 100000 in
theorem lk_Ring_95 : Cond.methodLink "FriezePolygons$Ring" 95 mr_Ring_farthest.1 ∈ am_tb := am_has_in (po := 743) (by decide +kernel)
set_option maxRecDepth 100000 in
theorem lk_Row_26 : Cond.methodLink "FriezePolygons$Row" 26 mr_Arrays_fill.1 ∈ am_tb := am_has_in (po := 390) (by decide +kernel)
set_option maxRecDepth 100000 in
theorem lk_Tape_54 : Cond.methodLink "FriezePolygons$Tape" 54 mr_Tape_next.1 ∈ am_tb := am_has_in (po := 441) (by decide +kernel)
set_option maxRecDepth 100000 in
theorem lk_Tape_57 : Cond.methodLink "FriezePolygons$Tape" 57 mr_Tape_readCorners.1 ∈ am_tb := am_has_in (po := 452) (by decide +kernel)
set_option maxRecDepth 100000 in
theorem lk_Tape_61 : Cond.methodLink "FriezePolygons$Tape" 61 mr_Tape_readCuts.1 ∈ am_tb := am_has_in (po := 471) (by decide +kernel)
set_option maxRecDepth 100000 in
theorem lk_Tape_64 : Cond.methodLink "FriezePolygons$Tape" 64 mr_Tape_sortOf.1 ∈ am_tb := am_has_in (po := 456) (by decide +kernel)
set_option maxRecDepth 100000 in
theorem lk_Tape_68 : Cond.methodLink "FriezePolygons$Tape" 68 mr_Tape_refuse.1 ∈ am_tb := am_has_in (po := 459) (by decide +kernel)
set_option maxRecDepth 100000 in
theorem lk_Tape_72 : Cond.methodLink "FriezePolygons$Tape" 72 mr_Tape_isNumberUpTo.1 ∈ am_tb := am_has_in (po := 463) (by decide +kernel)
set_option maxRecDepth 100000 in
theorem lk_Tape_81 : Cond.methodLink "FriezePolygons$Tape" 81 mr_Tape_isSign.1 ∈ am_tb := am_has_in (po := 467) (by decide +kernel)
set_option maxRecDepth 100000 in
theorem lk_Tape_84 : Cond.methodLink "FriezePolygons$Tape" 84 mr_Ring_layOut.1 ∈ am_tb := am_has_in (po := 475) (by decide +kernel)
set_option maxRecDepth 100000 in
theorem lk_Tape_88 : Cond.methodLink "FriezePolygons$Tape" 88 mr_Tape_drawCut.1 ∈ am_tb := am_has_in (po := 491) (by decide +kernel)
set_option maxRecDepth 100000 in
theorem lk_Tape_92 : Cond.methodLink "FriezePolygons$Tape" 92 mr_Ring_numberOf.1 ∈ am_tb := am_has_in (po := 495) (by decide +kernel)
set_option maxRecDepth 100000 in
theorem lk_Tape_96 : Cond.methodLink "FriezePolygons$Tape" 96 mr_Ring_isFree.1 ∈ am_tb := am_has_in (po := 502) (by decide +kernel)
set_option maxRecDepth 100000 in
theorem lk_Tape_99 : Cond.methodLink "FriezePolygons$Tape" 99 mr_Tape_isFigure.1 ∈ am_tb := am_has_in (po := 445) (by decide +kernel)
set_option maxRecDepth 100000 in
theorem lk_Tape_102 : Cond.methodLink "FriezePolygons$Tape" 102 mr_Tape_nextNumber.1 ∈ am_tb := am_has_in (po := 448) (by decide +kernel)
set_option maxRecDepth 100000 in
theorem lk_L_9 : Cond.methodLink "FriezePolygonsLaw" 9 mr_C_init.1 ∈ am_tb := am_has_in (po := 98) (by decide +kernel)
set_option maxRecDepth 100000 in
theorem lk_L_12 : Cond.methodLink "FriezePolygonsLaw" 12 mr_M_init.1 ∈ am_tb := am_has_in (po := 952) (by decide +kernel)
set_option maxRecDepth 100000 in
theorem lk_L_13 : Cond.methodLink "FriezePolygonsLaw" 13 mr_C_row.1 ∈ am_tb := am_has_in (po := 373) (by decide +kernel)
set_option maxRecDepth 100000 in
theorem lk_L_17 : Cond.methodLink "FriezePolygonsLaw" 17 mr_M_row.1 ∈ am_tb := am_has_in (po := 1036) (by decide +kernel)
set_option maxRecDepth 100000 in
theorem lk_L_18 : Cond.methodLink "FriezePolygonsLaw" 18 mr_C_set.1 ∈ am_tb := am_has_in (po := 397) (by decide +kernel)
set_option maxRecDepth 100000 in
theorem lk_L_21 : Cond.methodLink "FriezePolygonsLaw" 21 mr_M_set.1 ∈ am_tb := am_has_in (po := 1054) (by decide +kernel)
set_option maxRecDepth 100000 in
theorem lk_L_22 : Cond.methodLink "FriezePolygonsLaw" 22 mr_C_copy.1 ∈ am_tb := am_has_in (po := 413) (by decide +kernel)
set_option maxRecDepth 100000 in
theorem lk_L_26 : Cond.methodLink "FriezePolygonsLaw" 26 mr_M_copy.1 ∈ am_tb := am_has_in (po := 1058) (by decide +kernel)
set_option maxRecDepth 100000 in
theorem lk_L_27 : Cond.methodLink "FriezePolygonsLaw" 27 mr_C_drop.1 ∈ am_tb := am_has_in (po := 420) (by decide +kernel)
set_option maxRecDepth 100000 in
theorem lk_L_31 : Cond.methodLink "FriezePolygonsLaw" 31 mr_M_drop.1 ∈ am_tb := am_has_in (po := 1062) (by decide +kernel)
set_option maxRecDepth 100000 in
theorem lk_L_32 : Cond.methodLink "FriezePolygonsLaw" 32 mr_C_feed.1 ∈ am_tb := am_has_in (po := 424) (by decide +kernel)
set_option maxRecDepth 100000 in
theorem lk_L_35 : Cond.methodLink "FriezePolygonsLaw" 35 mr_M_feed.1 ∈ am_tb := am_has_in (po := 1066) (by decide +kernel)
set_option maxRecDepth 100000 in
theorem lk_L_36 : Cond.methodLink "FriezePolygonsLaw" 36 mr_C_polygon.1 ∈ am_tb := am_has_in (po := 433) (by decide +kernel)
set_option maxRecDepth 100000 in
theorem lk_L_40 : Cond.methodLink "FriezePolygonsLaw" 40 mr_M_polygon.1 ∈ am_tb := am_has_in (po := 1072) (by decide +kernel)
set_option maxRecDepth 100000 in
theorem lk_L_41 : Cond.methodLink "FriezePolygonsLaw" 41 mr_C_fault.1 ∈ am_tb := am_has_in (po := 521) (by decide +kernel)
set_option maxRecDepth 100000 in
theorem lk_L_44 : Cond.methodLink "FriezePolygonsLaw" 44 mr_M_fault.1 ∈ am_tb := am_has_in (po := 1140) (by decide +kernel)
set_option maxRecDepth 100000 in
theorem lk_L_45 : Cond.methodLink "FriezePolygonsLaw" 45 mr_C_undo.1 ∈ am_tb := am_has_in (po := 525) (by decide +kernel)
set_option maxRecDepth 100000 in
theorem lk_L_48 : Cond.methodLink "FriezePolygonsLaw" 48 mr_M_undo.1 ∈ am_tb := am_has_in (po := 1144) (by decide +kernel)
set_option maxRecDepth 100000 in
theorem lk_L_49 : Cond.methodLink "FriezePolygonsLaw" 49 mr_C_cut.1 ∈ am_tb := am_has_in (po := 534) (by decide +kernel)
set_option maxRecDepth 100000 in
theorem lk_L_53 : Cond.methodLink "FriezePolygonsLaw" 53 mr_M_cut.1 ∈ am_tb := am_has_in (po := 1149) (by decide +kernel)
set_option maxRecDepth 100000 in
theorem lk_L_54 : Cond.methodLink "FriezePolygonsLaw" 54 mr_C_join.1 ∈ am_tb := am_has_in (po := 559) (by decide +kernel)
set_option maxRecDepth 100000 in
theorem lk_L_57 : Cond.methodLink "FriezePolygonsLaw" 57 mr_M_join.1 ∈ am_tb := am_has_in (po := 1164) (by decide +kernel)
set_option maxRecDepth 100000 in
theorem lk_L_58 : Cond.methodLink "FriezePolygonsLaw" 58 mr_C_flip.1 ∈ am_tb := am_has_in (po := 568) (by decide +kernel)
set_option maxRecDepth 100000 in
theorem lk_L_61 : Cond.methodLink "FriezePolygonsLaw" 61 mr_M_flip.1 ∈ am_tb := am_has_in (po := 1176) (by decide +kernel)
set_option maxRecDepth 100000 in
theorem lk_L_62 : Cond.methodLink "FriezePolygonsLaw" 62 mr_C_turn.1 ∈ am_tb := am_has_in (po := 588) (by decide +kernel)
set_option maxRecDepth 100000 in
theorem lk_L_65 : Cond.methodLink "FriezePolygonsLaw" 65 mr_M_turn.1 ∈ am_tb := am_has_in (po := 1186) (by decide +kernel)
set_option maxRecDepth 100000 in
theorem lk_L_66 : Cond.methodLink "FriezePolygonsLaw" 66 mr_C_mirror.1 ∈ am_tb := am_has_in (po := 604) (by decide +kernel)
set_option maxRecDepth 100000 in
theorem lk_L_69 : Cond.methodLink "FriezePolygonsLaw" 69 mr_M_mirror.1 ∈ am_tb := am_has_in (po := 1193) (by decide +kernel)
set_option maxRecDepth 100000 in
theorem lk_L_70 : Cond.methodLink "FriezePolygonsLaw" 70 mr_C_become.1 ∈ am_tb := am_has_in (po := 612) (by decide +kernel)
set_option maxRecDepth 100000 in
theorem lk_L_73 : Cond.methodLink "FriezePolygonsLaw" 73 mr_M_become.1 ∈ am_tb := am_has_in (po := 1197) (by decide +kernel)
set_option maxRecDepth 100000 in
theorem lk_L_74 : Cond.methodLink "FriezePolygonsLaw" 74 mr_C_number.1 ∈ am_tb := am_has_in (po := 620) (by decide +kernel)
set_option maxRecDepth 100000 in
theorem lk_L_77 : Cond.methodLink "FriezePolygonsLaw" 77 mr_M_number.1 ∈ am_tb := am_has_in (po := 1205) (by decide +kernel)
set_option maxRecDepth 100000 in
theorem lk_L_78 : Cond.methodLink "FriezePolygonsLaw" 78 mr_C_lay.1 ∈ am_tb := am_has_in (po := 624) (by decide +kernel)
set_option maxRecDepth 100000 in
theorem lk_L_81 : Cond.methodLink "FriezePolygonsLaw" 81 mr_M_lay.1 ∈ am_tb := am_has_in (po := 1210) (by decide +kernel)
set_option maxRecDepth 100000 in
theorem lk_L_82 : Cond.methodLink "FriezePolygonsLaw" 82 mr_C_corner.1 ∈ am_tb := am_has_in (po := 662) (by decide +kernel)
set_option maxRecDepth 100000 in
theorem lk_L_85 : Cond.methodLink "FriezePolygonsLaw" 85 mr_M_corner.1 ∈ am_tb := am_has_in (po := 1277) (by decide +kernel)
set_option maxRecDepth 100000 in
theorem lk_L_86 : Cond.methodLink "FriezePolygonsLaw" 86 mr_C_cutOf.1 ∈ am_tb := am_has_in (po := 680) (by decide +kernel)
set_option maxRecDepth 100000 in
theorem lk_L_89 : Cond.methodLink "FriezePolygonsLaw" 89 mr_M_cutOf.1 ∈ am_tb := am_has_in (po := 1284) (by decide +kernel)
set_option maxRecDepth 100000 in
theorem lk_L_90 : Cond.methodLink "FriezePolygonsLaw" 90 mr_C_frieze.1 ∈ am_tb := am_has_in (po := 684) (by decide +kernel)
set_option maxRecDepth 100000 in
theorem lk_L_94 : Cond.methodLink "FriezePolygonsLaw" 94 mr_M_frieze.1 ∈ am_tb := am_has_in (po := 1232) (by decide +kernel)
set_option maxRecDepth 100000 in
theorem lk_L_95 : Cond.methodLink "FriezePolygonsLaw" 95 mr_C_whole.1 ∈ am_tb := am_has_in (po := 702) (by decide +kernel)
set_option maxRecDepth 100000 in
theorem lk_L_98 : Cond.methodLink "FriezePolygonsLaw" 98 mr_M_whole.1 ∈ am_tb := am_has_in (po := 1258) (by decide +kernel)
set_option maxRecDepth 100000 in
theorem lk_L_99 : Cond.methodLink "FriezePolygonsLaw" 99 mr_C_piece.1 ∈ am_tb := am_has_in (po := 731) (by decide +kernel)
set_option maxRecDepth 100000 in
theorem lk_L_102 : Cond.methodLink "FriezePolygonsLaw" 102 mr_M_piece.1 ∈ am_tb := am_has_in (po := 1288) (by decide +kernel)
set_option maxRecDepth 100000 in
theorem lk_L_103 : Cond.methodLink "FriezePolygonsLaw" 103 mr_C_back.1 ∈ am_tb := am_has_in (po := 747) (by decide +kernel)
set_option maxRecDepth 100000 in
theorem lk_L_106 : Cond.methodLink "FriezePolygonsLaw" 106 mr_M_back.1 ∈ am_tb := am_has_in (po := 1228) (by decide +kernel)
set_option maxRecDepth 100000 in
theorem lk_L_107 : Cond.methodLink "FriezePolygonsLaw" 107 mr_C_ways.1 ∈ am_tb := am_has_in (po := 751) (by decide +kernel)
set_option maxRecDepth 100000 in
theorem lk_L_110 : Cond.methodLink "FriezePolygonsLaw" 110 mr_M_ways.1 ∈ am_tb := am_has_in (po := 1298) (by decide +kernel)
set_option maxRecDepth 100000 in
theorem lk_L_111 : Cond.methodLink "FriezePolygonsLaw" 111 mr_C_likes.1 ∈ am_tb := am_has_in (po := 765) (by decide +kernel)
set_option maxRecDepth 100000 in
theorem lk_L_114 : Cond.methodLink "FriezePolygonsLaw" 114 mr_M_likes.1 ∈ am_tb := am_has_in (po := 1305) (by decide +kernel)
set_option maxRecDepth 100000 in
theorem lk_L_115 : Cond.methodLink "FriezePolygonsLaw" 115 mr_C_flips.1 ∈ am_tb := am_has_in (po := 782) (by decide +kernel)
set_option maxRecDepth 100000 in
theorem lk_L_118 : Cond.methodLink "FriezePolygonsLaw" 118 mr_M_flips.1 ∈ am_tb := am_has_in (po := 1309) (by decide +kernel)
set_option maxRecDepth 100000 in
theorem lk_L_119 : Cond.methodLink "FriezePolygonsLaw" 119 mr_C_sets.1 ∈ am_tb := am_has_in (po := 803) (by decide +kernel)
set_option maxRecDepth 100000 in
theorem lk_L_122 : Cond.methodLink "FriezePolygonsLaw" 122 mr_M_sets.1 ∈ am_tb := am_has_in (po := 1325) (by decide +kernel)
set_option maxRecDepth 100000 in
theorem lk_L_123 : Cond.methodLink "FriezePolygonsLaw" 123 mr_C_who.1 ∈ am_tb := am_has_in (po := 811) (by decide +kernel)
set_option maxRecDepth 100000 in
theorem lk_L_126 : Cond.methodLink "FriezePolygonsLaw" 126 mr_M_who.1 ∈ am_tb := am_has_in (po := 1331) (by decide +kernel)
set_option maxRecDepth 100000 in
theorem lk_L_127 : Cond.methodLink "FriezePolygonsLaw" 127 mr_C_lost.1 ∈ am_tb := am_has_in (po := 833) (by decide +kernel)
set_option maxRecDepth 100000 in
theorem lk_L_131 : Cond.methodLink "FriezePolygonsLaw" 131 mr_M_lost.1 ∈ am_tb := am_has_in (po := 1347) (by decide +kernel)
set_option maxRecDepth 100000 in
theorem lk_L_132 : Cond.methodLink "FriezePolygonsLaw" 132 mr_C_drawn.1 ∈ am_tb := am_has_in (po := 852) (by decide +kernel)
set_option maxRecDepth 100000 in
theorem lk_L_135 : Cond.methodLink "FriezePolygonsLaw" 135 mr_M_drawn.1 ∈ am_tb := am_has_in (po := 1357) (by decide +kernel)
set_option maxRecDepth 100000 in
theorem lk_L_136 : Cond.methodLink "FriezePolygonsLaw" 136 mr_C_image.1 ∈ am_tb := am_has_in (po := 863) (by decide +kernel)
set_option maxRecDepth 100000 in
theorem lk_L_139 : Cond.methodLink "FriezePolygonsLaw" 139 mr_M_image.1 ∈ am_tb := am_has_in (po := 1368) (by decide +kernel)
set_option maxRecDepth 100000 in
theorem lk_L_140 : Cond.methodLink "FriezePolygonsLaw" 140 mr_C_restore.1 ∈ am_tb := am_has_in (po := 867) (by decide +kernel)
set_option maxRecDepth 100000 in
theorem lk_L_143 : Cond.methodLink "FriezePolygonsLaw" 143 mr_M_restore.1 ∈ am_tb := am_has_in (po := 1372) (by decide +kernel)
set_option maxRecDepth 100000 in
theorem lk_L_144 : Cond.methodLink "FriezePolygonsLaw" 144 mr_C_kind.1 ∈ am_tb := am_has_in (po := 871) (by decide +kernel)
set_option maxRecDepth 100000 in
theorem lk_L_147 : Cond.methodLink "FriezePolygonsLaw" 147 mr_M_kind.1 ∈ am_tb := am_has_in (po := 1376) (by decide +kernel)
set_option maxRecDepth 100000 in
theorem lk_L_148 : Cond.methodLink "FriezePolygonsLaw" 148 mr_C_as.1 ∈ am_tb := am_has_in (po := 875) (by decide +kernel)
set_option maxRecDepth 100000 in
theorem lk_L_151 : Cond.methodLink "FriezePolygonsLaw" 151 mr_M_as.1 ∈ am_tb := am_has_in (po := 1380) (by decide +kernel)
set_option maxRecDepth 100000 in
theorem lk_L_152 : Cond.methodLink "FriezePolygonsLaw" 152 mr_C_ask.1 ∈ am_tb := am_has_in (po := 882) (by decide +kernel)
set_option maxRecDepth 100000 in
theorem lk_L_155 : Cond.methodLink "FriezePolygonsLaw" 155 mr_M_ask.1 ∈ am_tb := am_has_in (po := 1387) (by decide +kernel)
set_option maxRecDepth 100000 in
theorem lk_L_156 : Cond.methodLink "FriezePolygonsLaw" 156 mr_C_trace.1 ∈ am_tb := am_has_in (po := 934) (by decide +kernel)
set_option maxRecDepth 100000 in
theorem lk_L_159 : Cond.methodLink "FriezePolygonsLaw" 159 mr_M_trace.1 ∈ am_tb := am_has_in (po := 1411) (by decide +kernel)
set_option maxRecDepth 100000 in
theorem lk_L_160 : Cond.methodLink "FriezePolygonsLaw" 160 mr_C_count.1 ∈ am_tb := am_has_in (po := 938) (by decide +kernel)
set_option maxRecDepth 100000 in
theorem lk_L_163 : Cond.methodLink "FriezePolygonsLaw" 163 mr_M_count.1 ∈ am_tb := am_has_in (po := 1415) (by decide +kernel)
set_option maxRecDepth 100000 in
theorem lk_L_164 : Cond.methodLink "FriezePolygonsLaw" 164 mr_C_status.1 ∈ am_tb := am_has_in (po := 946) (by decide +kernel)
set_option maxRecDepth 100000 in
theorem lk_L_167 : Cond.methodLink "FriezePolygonsLaw" 167 mr_M_status.1 ∈ am_tb := am_has_in (po := 1419) (by decide +kernel)
set_option maxRecDepth 100000 in
theorem lk_M_60 : Cond.methodLink "FriezePolygonsModel" 60 mr_M_in.1 ∈ am_tb := am_has_in (po := 1044) (by decide +kernel)
set_option maxRecDepth 100000 in
theorem lk_M_64 : Cond.methodLink "FriezePolygonsModel" 64 mr_M_isRow.1 ∈ am_tb := am_has_in (po := 1040) (by decide +kernel)
set_option maxRecDepth 100000 in
theorem lk_M_71 : Cond.methodLink "FriezePolygonsModel" 71 mr_M_finding.1 ∈ am_tb := am_has_in (po := 1049) (by decide +kernel)
set_option maxRecDepth 100000 in
theorem lk_M_75 : Cond.methodLink "FriezePolygonsModel" 75 mr_M_has.1 ∈ am_tb := am_has_in (po := 1124) (by decide +kernel)
set_option maxRecDepth 100000 in
theorem lk_M_79 : Cond.methodLink "FriezePolygonsModel" 79 mr_M_goFrom.1 ∈ am_tb := am_has_in (po := 1118) (by decide +kernel)
set_option maxRecDepth 100000 in
theorem lk_M_83 : Cond.methodLink "FriezePolygonsModel" 83 mr_M_isBetween.1 ∈ am_tb := am_has_in (po := 1136) (by decide +kernel)
set_option maxRecDepth 100000 in
theorem lk_M_87 : Cond.methodLink "FriezePolygonsModel" 87 mr_M_manyCuts.1 ∈ am_tb := am_has_in (po := 1127) (by decide +kernel)
set_option maxRecDepth 100000 in
theorem lk_M_90 : Cond.methodLink "FriezePolygonsModel" 90 mr_M_endsOf.1 ∈ am_tb := am_has_in (po := 1130) (by decide +kernel)
set_option maxRecDepth 100000 in
theorem lk_M_93 : Cond.methodLink "FriezePolygonsModel" 93 mr_M_doCross.1 ∈ am_tb := am_has_in (po := 1133) (by decide +kernel)
set_option maxRecDepth 100000 in
theorem lk_M_96 : Cond.methodLink "FriezePolygonsModel" 96 mr_M_numberOf.1 ∈ am_tb := am_has_in (po := 1115) (by decide +kernel)
set_option maxRecDepth 100000 in
theorem lk_M_101 : Cond.methodLink "FriezePolygonsModel" 101 mr_M_isJoined.1 ∈ am_tb := am_has_in (po := 1183) (by decide +kernel)
set_option maxRecDepth 100000 in
theorem lk_M_105 : Cond.methodLink "FriezePolygonsModel" 105 mr_M_isLinked.1 ∈ am_tb := am_has_in (po := 1250) (by decide +kernel)
set_option maxRecDepth 100000 in
theorem lk_M_108 : Cond.methodLink "FriezePolygonsModel" 108 mr_M_mayBe.1 ∈ am_tb := am_has_in (po := 1112) (by decide +kernel)
set_option maxRecDepth 100000 in
theorem lk_M_111 : Cond.methodLink "FriezePolygonsModel" 111 mr_M_cutsAt.1 ∈ am_tb := am_has_in (po := 1246) (by decide +kernel)
set_option maxRecDepth 100000 in
theorem lk_M_115 : Cond.methodLink "FriezePolygonsModel" 115 mr_M_kindOf.1 ∈ am_tb := am_has_in (po := 1202) (by decide +kernel)
set_option maxRecDepth 100000 in
theorem lk_M_150 : Cond.methodLink "FriezePolygonsModel" 150 mr_M_bad.1 ∈ am_tb := am_has_in (po := 1092) (by decide +kernel)
set_option maxRecDepth 100000 in
theorem lk_M_154 : Cond.methodLink "FriezePolygonsModel" 154 mr_M_nextToken.1 ∈ am_tb := am_has_in (po := 1076) (by decide +kernel)
set_option maxRecDepth 100000 in
theorem lk_M_157 : Cond.methodLink "FriezePolygonsModel" 157 mr_M_must.1 ∈ am_tb := am_has_in (po := 1100) (by decide +kernel)
set_option maxRecDepth 100000 in
theorem lk_M_161 : Cond.methodLink "FriezePolygonsModel" 161 mr_M_sortOf.1 ∈ am_tb := am_has_in (po := 1089) (by decide +kernel)
set_option maxRecDepth 100000 in
theorem lk_M_164 : Cond.methodLink "FriezePolygonsModel" 164 mr_M_figure.1 ∈ am_tb := am_has_in (po := 1096) (by decide +kernel)
set_option maxRecDepth 100000 in
theorem lk_M_167 : Cond.methodLink "FriezePolygonsModel" 167 mr_M_mustSign.1 ∈ am_tb := am_has_in (po := 1104) (by decide +kernel)
set_option maxRecDepth 100000 in
theorem lk_M_170 : Cond.methodLink "FriezePolygonsModel" 170 mr_M_isFree.1 ∈ am_tb := am_has_in (po := 1121) (by decide +kernel)
set_option maxRecDepth 100000 in
theorem lk_M_174 : Cond.methodLink "FriezePolygonsModel" 174 mr_M_readCorner.1 ∈ am_tb := am_has_in (po := 1085) (by decide +kernel)
set_option maxRecDepth 100000 in
theorem lk_M_177 : Cond.methodLink "FriezePolygonsModel" 177 mr_M_readCut.1 ∈ am_tb := am_has_in (po := 1108) (by decide +kernel)
set_option maxRecDepth 100000 in
theorem lk_M_188 : Cond.methodLink "FriezePolygonsModel" 188 mr_M_isThere.1 ∈ am_tb := am_has_in (po := 1172) (by decide +kernel)
set_option maxRecDepth 100000 in
theorem lk_M_192 : Cond.methodLink "FriezePolygonsModel" 192 mr_M_isCorner.1 ∈ am_tb := am_has_in (po := 1153) (by decide +kernel)
set_option maxRecDepth 100000 in
theorem lk_M_195 : Cond.methodLink "FriezePolygonsModel" 195 mr_M_keeps.1 ∈ am_tb := am_has_in (po := 1157) (by decide +kernel)
set_option maxRecDepth 100000 in
theorem lk_M_198 : Cond.methodLink "FriezePolygonsModel" 198 mr_M_sizeOf.1 ∈ am_tb := am_has_in (po := 1161) (by decide +kernel)
set_option maxRecDepth 100000 in
theorem lk_M_201 : Cond.methodLink "FriezePolygonsModel" 201 mr_M_isCut.1 ∈ am_tb := am_has_in (po := 1168) (by decide +kernel)
set_option maxRecDepth 100000 in
theorem lk_M_204 : Cond.methodLink "FriezePolygonsModel" 204 mr_M_flipped.1 ∈ am_tb := am_has_in (po := 1180) (by decide +kernel)
set_option maxRecDepth 100000 in
theorem lk_M_207 : Cond.methodLink "FriezePolygonsModel" 207 mr_M_turned.1 ∈ am_tb := am_has_in (po := 1190) (by decide +kernel)
set_option maxRecDepth 100000 in
theorem lk_M_215 : Cond.methodLink "FriezePolygonsModel" 215 mr_M_firstEar.1 ∈ am_tb := am_has_in (po := 1222) (by decide +kernel)
set_option maxRecDepth 100000 in
theorem lk_M_218 : Cond.methodLink "FriezePolygonsModel" 218 mr_M_beside.1 ∈ am_tb := am_has_in (po := 1225) (by decide +kernel)
set_option maxRecDepth 100000 in
theorem lk_M_222 : Cond.methodLink "FriezePolygonsModel" 222 mr_M_lacks.1 ∈ am_tb := am_has_in (po := 1214) (by decide +kernel)
set_option maxRecDepth 100000 in
theorem lk_M_225 : Cond.methodLink "FriezePolygonsModel" 225 mr_M_readBack.1 ∈ am_tb := am_has_in (po := 1218) (by decide +kernel)
set_option maxRecDepth 100000 in
theorem lk_M_236 : Cond.methodLink "FriezePolygonsModel" 236 mr_M_countOf.1 ∈ am_tb := am_has_in (po := 1242) (by decide +kernel)
set_option maxRecDepth 100000 in
theorem lk_M_239 : Cond.methodLink "FriezePolygonsModel" 239 mr_M_isTooFar.1 ∈ am_tb := am_has_in (po := 1253) (by decide +kernel)
set_option maxRecDepth 100000 in
theorem lk_M_247 : Cond.methodLink "FriezePolygonsModel" 247 mr_M_grown.1 ∈ am_tb := am_has_in (po := 1238) (by decide +kernel)
set_option maxRecDepth 100000 in
theorem lk_M_251 : Cond.methodLink "FriezePolygonsModel" 251 mr_M_doesClose.1 ∈ am_tb := am_has_in (po := 1262) (by decide +kernel)
set_option maxRecDepth 100000 in
theorem lk_M_254 : Cond.methodLink "FriezePolygonsModel" 254 mr_M_period.1 ∈ am_tb := am_has_in (po := 1266) (by decide +kernel)
set_option maxRecDepth 100000 in
theorem lk_M_258 : Cond.methodLink "FriezePolygonsModel" 258 mr_M_with.1 ∈ am_tb := am_has_in (po := 1270) (by decide +kernel)
set_option maxRecDepth 100000 in
theorem lk_M_262 : Cond.methodLink "FriezePolygonsModel" 262 mr_M_isTriangled.1 ∈ am_tb := am_has_in (po := 1274) (by decide +kernel)
set_option maxRecDepth 100000 in
theorem lk_M_266 : Cond.methodLink "FriezePolygonsModel" 266 mr_M_linkedTo.1 ∈ am_tb := am_has_in (po := 1281) (by decide +kernel)
set_option maxRecDepth 100000 in
theorem lk_M_269 : Cond.methodLink "FriezePolygonsModel" 269 mr_M_over.1 ∈ am_tb := am_has_in (po := 1292) (by decide +kernel)
set_option maxRecDepth 100000 in
theorem lk_M_272 : Cond.methodLink "FriezePolygonsModel" 272 mr_M_pieceUnder.1 ∈ am_tb := am_has_in (po := 1295) (by decide +kernel)
set_option maxRecDepth 100000 in
theorem lk_M_275 : Cond.methodLink "FriezePolygonsModel" 275 mr_M_waysOf.1 ∈ am_tb := am_has_in (po := 1302) (by decide +kernel)
set_option maxRecDepth 100000 in
theorem lk_M_278 : Cond.methodLink "FriezePolygonsModel" 278 mr_M_isKnown.1 ∈ am_tb := am_has_in (po := 1317) (by decide +kernel)
set_option maxRecDepth 100000 in
theorem lk_M_281 : Cond.methodLink "FriezePolygonsModel" 281 mr_M_steps.1 ∈ am_tb := am_has_in (po := 1321) (by decide +kernel)
set_option maxRecDepth 100000 in
theorem lk_M_284 : Cond.methodLink "FriezePolygonsModel" 284 mr_M_flipsBetween.1 ∈ am_tb := am_has_in (po := 1313) (by decide +kernel)
set_option maxRecDepth 100000 in
theorem lk_M_291 : Cond.methodLink "FriezePolygonsModel" 291 mr_M_layThen.1 ∈ am_tb := am_has_in (po := 1339) (by decide +kernel)
set_option maxRecDepth 100000 in
theorem lk_M_294 : Cond.methodLink "FriezePolygonsModel" 294 mr_M_areCountsSo.1 ∈ am_tb := am_has_in (po := 1343) (by decide +kernel)
set_option maxRecDepth 100000 in
theorem lk_M_297 : Cond.methodLink "FriezePolygonsModel" 297 mr_M_fitting.1 ∈ am_tb := am_has_in (po := 1335) (by decide +kernel)
set_option maxRecDepth 100000 in
theorem lk_M_306 : Cond.methodLink "FriezePolygonsModel" 306 mr_M_greatest.1 ∈ am_tb := am_has_in (po := 1354) (by decide +kernel)
set_option maxRecDepth 100000 in
theorem lk_M_318 : Cond.methodLink "FriezePolygonsModel" 318 mr_M_cutAt.1 ∈ am_tb := am_has_in (po := 1365) (by decide +kernel)
set_option maxRecDepth 100000 in
theorem lk_M_321 : Cond.methodLink "FriezePolygonsModel" 321 mr_M_isOf.1 ∈ am_tb := am_has_in (po := 1384) (by decide +kernel)
set_option maxRecDepth 100000 in
theorem lk_M_327 : Cond.methodLink "FriezePolygonsModel" 327 mr_M_began.1 ∈ am_tb := am_has_in (po := 1399) (by decide +kernel)
set_option maxRecDepth 100000 in
theorem lk_M_330 : Cond.methodLink "FriezePolygonsModel" 330 mr_M_lentSize.1 ∈ am_tb := am_has_in (po := 1403) (by decide +kernel)
set_option maxRecDepth 100000 in
theorem lk_M_333 : Cond.methodLink "FriezePolygonsModel" 333 mr_M_fixedSize.1 ∈ am_tb := am_has_in (po := 1395) (by decide +kernel)
set_option maxRecDepth 100000 in
theorem lk_M_336 : Cond.methodLink "FriezePolygonsModel" 336 mr_M_markOf.1 ∈ am_tb := am_has_in (po := 1407) (by decide +kernel)
set_option maxRecDepth 100000 in
theorem lk_M_339 : Cond.methodLink "FriezePolygonsModel" 339 mr_M_askedSize.1 ∈ am_tb := am_has_in (po := 1391) (by decide +kernel)
set_option maxRecDepth 100000 in
theorem lk_C_17 : ∃ h, Cond.methodLinkNest "FriezePolygons" 17 mr_Tape_init.1 h ∈ am_nw := ⟨"FriezePolygons", am_hasN_in (po := 1) (by decide +kernel)⟩
set_option maxRecDepth 100000 in
theorem lk_C_24 : ∃ h, Cond.methodLinkNest "FriezePolygons" 24 mr_Figure_init.1 h ∈ am_nw := ⟨"FriezePolygons", am_hasN_in (po := 4) (by decide +kernel)⟩
set_option maxRecDepth 100000 in
theorem lk_C_38 : ∃ h, Cond.methodLinkNest "FriezePolygons" 38 mr_Ring_init.1 h ∈ am_nw := ⟨"FriezePolygons", am_hasN_in (po := 6) (by decide +kernel)⟩
set_option maxRecDepth 100000 in
theorem lk_C_45 : ∃ h, Cond.methodLinkNest "FriezePolygons" 45 mr_Acts_init.1 h ∈ am_nw := ⟨"FriezePolygons", am_hasN_in (po := 7) (by decide +kernel)⟩
set_option maxRecDepth 100000 in
theorem lk_C_52 : ∃ h, Cond.methodLinkNest "FriezePolygons" 52 mr_Frieze_init.1 h ∈ am_nw := ⟨"FriezePolygons", am_hasN_in (po := 8) (by decide +kernel)⟩
set_option maxRecDepth 100000 in
theorem lk_C_59 : ∃ h, Cond.methodLinkNest "FriezePolygons" 59 mr_Ears_init.1 h ∈ am_nw := ⟨"FriezePolygons", am_hasN_in (po := 9) (by decide +kernel)⟩
set_option maxRecDepth 100000 in
theorem lk_C_66 : ∃ h, Cond.methodLinkNest "FriezePolygons" 66 mr_FlipSearch_init.1 h ∈ am_nw := ⟨"FriezePolygons", am_hasN_in (po := 10) (by decide +kernel)⟩
set_option maxRecDepth 100000 in
theorem lk_C_73 : ∃ h, Cond.methodLinkNest "FriezePolygons" 73 mr_Asks_init.1 h ∈ am_nw := ⟨"FriezePolygons", am_hasN_in (po := 11) (by decide +kernel)⟩
set_option maxRecDepth 100000 in
theorem lk_C_86 : ∃ h, Cond.methodLinkNest "FriezePolygons" 86 mr_Row_init.1 h ∈ am_nw := ⟨"FriezePolygons", am_hasN_in (po := 12) (by decide +kernel)⟩
set_option maxRecDepth 100000 in
theorem lk_Tape_11 : ∃ h, Cond.methodLinkNest "FriezePolygons$Tape" 11 mr_Figure_init.1 h ∈ am_nw := ⟨"FriezePolygons", am_hasN_in (po := 2) (by decide +kernel)⟩
set_option maxRecDepth 100000 in
theorem lk_Tape_20 : ∃ h, Cond.methodLinkNest "FriezePolygons$Tape" 20 mr_Ring_init.1 h ∈ am_nw := ⟨"FriezePolygons", am_hasN_in (po := 3) (by decide +kernel)⟩
set_option maxRecDepth 100000 in
theorem am_mmax_ok : Cond.static Lib.Math.max.name ∈ am_tb ∧ Cond.initialized "java/lang/Math" ∈ am_tb ∧ Cond.code Lib.Math.max.name Lib.Math.max.code 2 (some .int) ∈ am_tb := ⟨am_has_in (po := 500) (by decide +kernel), am_has_in (po := 94) (by decide +kernel), am_has_in (po := 501) (by decide +kernel)⟩
set_option maxRecDepth 100000 in
theorem am_mmin_ok : Cond.static Lib.Math.min.name ∈ am_tb ∧ Cond.initialized "java/lang/Math" ∈ am_tb ∧ Cond.code Lib.Math.min.name Lib.Math.min.code 2 (some .int) ∈ am_tb := ⟨am_has_in (po := 480) (by decide +kernel), am_has_in (po := 94) (by decide +kernel), am_has_in (po := 481) (by decide +kernel)⟩
