/-! The links of calls. -/
theorem l_law_9 : KIn "LeftTownLaw" 9 m_X_init 0 := ⟨ok_at 26 (by decide +kernel) rfl, ⟨ok_at 27 (by decide +kernel) rfl, rfl, rfl⟩, km_X_init⟩
theorem l_X_9 : KIN "LeftTown" 9 m_T_init 0 := ⟨⟨_, List.mem_of_getElem? (i := 0) rfl⟩, ⟨ok_at 35 (by decide +kernel) rfl, rfl, rfl⟩, km_T_init⟩
theorem l_T_24 : KIN "LeftTown$Town" 24 m_A_init 0 := ⟨⟨_, List.mem_of_getElem? (i := 2) rfl⟩, ⟨ok_at 43 (by decide +kernel) rfl, rfl, rfl⟩, km_A_init⟩
theorem l_X_21 : KIN "LeftTown" 21 m_R_init 0 := ⟨⟨_, List.mem_of_getElem? (i := 3) rfl⟩, ⟨ok_at 112 (by decide +kernel) rfl, rfl, rfl⟩, km_R_init⟩
theorem l_R_13 : KIN "LeftTown$LawReader" 13 m_A_init 0 := ⟨⟨_, List.mem_of_getElem? (i := 4) rfl⟩, ⟨ok_at 43 (by decide +kernel) rfl, rfl, rfl⟩, km_A_init⟩
theorem l_X_28 : KIN "LeftTown" 28 m_W_init 0 := ⟨⟨_, List.mem_of_getElem? (i := 5) rfl⟩, ⟨ok_at 148 (by decide +kernel) rfl, rfl, rfl⟩, km_W_init⟩
theorem l_X_35 : KIN "LeftTown" 35 m_H_init 0 := ⟨⟨_, List.mem_of_getElem? (i := 6) rfl⟩, ⟨ok_at 196 (by decide +kernel) rfl, rfl, rfl⟩, km_H_init⟩
theorem l_law_13 : KVi "LeftTownLaw" 13 m_X_crossing 2 := ⟨ok_at 254 (by decide +kernel) rfl, ⟨ok_at 255 (by decide +kernel) rfl, ok_at 256 (by decide +kernel) rfl⟩, km_X_crossing⟩
theorem l_X_60 : KVi "LeftTown" 60 m_T_isTaken 2 := ⟨ok_at 258 (by decide +kernel) rfl, ⟨ok_at 259 (by decide +kernel) rfl, ok_at 260 (by decide +kernel) rfl⟩, km_T_isTaken⟩
theorem l_X_64 : KVi "LeftTown" 64 m_T_addCrossing 2 := ⟨ok_at 262 (by decide +kernel) rfl, ⟨ok_at 263 (by decide +kernel) rfl, ok_at 264 (by decide +kernel) rfl⟩, km_T_addCrossing⟩
theorem l_law_18 : KVi "LeftTownLaw" 18 m_X_crossingOf 2 := ⟨ok_at 266 (by decide +kernel) rfl, ⟨ok_at 267 (by decide +kernel) rfl, ok_at 268 (by decide +kernel) rfl⟩, km_X_crossingOf⟩
theorem l_X_68 : KVi "LeftTown" 68 m_T_hasCrossing 1 := ⟨ok_at 270 (by decide +kernel) rfl, ⟨ok_at 271 (by decide +kernel) rfl, ok_at 272 (by decide +kernel) rfl⟩, km_T_hasCrossing⟩
theorem l_X_75 : KVi "LeftTown" 75 m_T_countBeginning 1 := ⟨ok_at 274 (by decide +kernel) rfl, ⟨ok_at 275 (by decide +kernel) rfl, ok_at 276 (by decide +kernel) rfl⟩, km_T_countBeginning⟩
theorem l_T_50 : KVi "LeftTown$Town" 50 m_T_hasCourse 1 := ⟨ok_at 278 (by decide +kernel) rfl, ⟨ok_at 279 (by decide +kernel) rfl, ok_at 280 (by decide +kernel) rfl⟩, km_T_hasCourse⟩
theorem l_T_47 : KVi "LeftTown$Town" 47 m_T_hasWay 1 := ⟨ok_at 282 (by decide +kernel) rfl, ⟨ok_at 283 (by decide +kernel) rfl, ok_at 284 (by decide +kernel) rfl⟩, km_T_hasWay⟩
theorem l_T_43 : KVi "LeftTown$Town" 43 m_T_hasStreet 1 := ⟨ok_at 286 (by decide +kernel) rfl, ⟨ok_at 287 (by decide +kernel) rfl, ok_at 288 (by decide +kernel) rfl⟩, km_T_hasStreet⟩
theorem l_T_65 : KVi "LeftTown$Town" 65 m_T_beginOf 1 := ⟨ok_at 290 (by decide +kernel) rfl, ⟨ok_at 291 (by decide +kernel) rfl, ok_at 292 (by decide +kernel) rfl⟩, km_T_beginOf⟩
theorem l_X_79 : KVi "LeftTown" 79 m_T_countEnding 1 := ⟨ok_at 294 (by decide +kernel) rfl, ⟨ok_at 295 (by decide +kernel) rfl, ok_at 296 (by decide +kernel) rfl⟩, km_T_countEnding⟩
theorem l_T_68 : KVi "LeftTown$Town" 68 m_T_endOf 1 := ⟨ok_at 298 (by decide +kernel) rfl, ⟨ok_at 299 (by decide +kernel) rfl, ok_at 300 (by decide +kernel) rfl⟩, km_T_endOf⟩
theorem l_law_22 : KVi "LeftTownLaw" 22 m_X_street 4 := ⟨ok_at 302 (by decide +kernel) rfl, ⟨ok_at 303 (by decide +kernel) rfl, ok_at 304 (by decide +kernel) rfl⟩, km_X_street⟩
theorem l_X_82 : KSt "LeftTown" 82 m_X_isWide 1 := ⟨ok_at 306 (by decide +kernel) rfl, ok_at 307 (by decide +kernel) rfl, km_X_isWide⟩
theorem l_X_88 : KVi "LeftTown" 88 m_T_addStreet 4 := ⟨ok_at 309 (by decide +kernel) rfl, ⟨ok_at 310 (by decide +kernel) rfl, ok_at 311 (by decide +kernel) rfl⟩, km_T_addStreet⟩
theorem l_T_57 : KVi "LeftTown$Town" 57 m_T_hasCrossing 1 := ⟨ok_at 313 (by decide +kernel) rfl, ⟨ok_at 271 (by decide +kernel) rfl, ok_at 272 (by decide +kernel) rfl⟩, km_T_hasCrossing⟩
theorem l_T_60 : KSt "LeftTown$Town" 60 m_Ma_abs 1 := ⟨ok_at 314 (by decide +kernel) rfl, ok_at 315 (by decide +kernel) rfl, km_Ma_abs⟩
theorem l_law_27 : KVi "LeftTownLaw" 27 m_X_streetOf 2 := ⟨ok_at 317 (by decide +kernel) rfl, ⟨ok_at 318 (by decide +kernel) rfl, ok_at 319 (by decide +kernel) rfl⟩, km_X_streetOf⟩
theorem l_X_92 : KVi "LeftTown" 92 m_T_hasStreet 1 := ⟨ok_at 321 (by decide +kernel) rfl, ⟨ok_at 287 (by decide +kernel) rfl, ok_at 288 (by decide +kernel) rfl⟩, km_T_hasStreet⟩
theorem l_law_31 : KVi "LeftTownLaw" 31 m_X_shut 2 := ⟨ok_at 322 (by decide +kernel) rfl, ⟨ok_at 323 (by decide +kernel) rfl, ok_at 324 (by decide +kernel) rfl⟩, km_X_shut⟩
theorem l_law_36 : KVi "LeftTownLaw" 36 m_X_widen 2 := ⟨ok_at 326 (by decide +kernel) rfl, ⟨ok_at 327 (by decide +kernel) rfl, ok_at 328 (by decide +kernel) rfl⟩, km_X_widen⟩
theorem l_law_40 : KVi "LeftTownLaw" 40 m_X_day 1 := ⟨ok_at 330 (by decide +kernel) rfl, ⟨ok_at 331 (by decide +kernel) rfl, ok_at 332 (by decide +kernel) rfl⟩, km_X_day⟩
theorem l_law_47 : KVi "LeftTownLaw" 47 m_X_feed 2 := ⟨ok_at 334 (by decide +kernel) rfl, ⟨ok_at 335 (by decide +kernel) rfl, ok_at 336 (by decide +kernel) rfl⟩, km_X_feed⟩
theorem l_X_104 : KVi "LeftTown" 104 m_R_takeIn 2 := ⟨ok_at 338 (by decide +kernel) rfl, ⟨ok_at 339 (by decide +kernel) rfl, ok_at 340 (by decide +kernel) rfl⟩, km_R_takeIn⟩
theorem l_law_52 : KVi "LeftTownLaw" 52 m_X_law 0 := ⟨ok_at 342 (by decide +kernel) rfl, ⟨ok_at 343 (by decide +kernel) rfl, ok_at 344 (by decide +kernel) rfl⟩, km_X_law⟩
theorem l_X_108 : KVi "LeftTown" 108 m_R_readText 0 := ⟨ok_at 346 (by decide +kernel) rfl, ⟨ok_at 347 (by decide +kernel) rfl, ok_at 348 (by decide +kernel) rfl⟩, km_R_readText⟩
theorem l_R_33 : KVi "LeftTown$LawReader" 33 m_R_splitTape 0 := ⟨ok_at 350 (by decide +kernel) rfl, ⟨ok_at 352 (by decide +kernel) rfl, ok_sel 0 (q := (m_R_splitTape.1, 8)) (by decide +kernel)⟩, km_R_splitTape⟩
theorem l_R_58 : KVi "LeftTown$LawReader" 58 m_R_goesOn 1 := ⟨ok_at 354 (by decide +kernel) rfl, ⟨ok_at 356 (by decide +kernel) rfl, ok_sel 1 (q := (m_R_goesOn.1, 8)) (by decide +kernel)⟩, km_R_goesOn⟩
theorem l_R_70 : KSt "LeftTown$LawReader" 70 m_R_isLetter 1 := ⟨ok_at 358 (by decide +kernel) rfl, ok_at 359 (by decide +kernel) rfl, km_R_isLetter⟩
theorem l_R_73 : KSt "LeftTown$LawReader" 73 m_R_isDigit 1 := ⟨ok_at 361 (by decide +kernel) rfl, ok_at 362 (by decide +kernel) rfl, km_R_isDigit⟩
theorem l_R_62 : KVi "LeftTown$LawReader" 62 m_R_endOfRun 1 := ⟨ok_at 364 (by decide +kernel) rfl, ⟨ok_at 366 (by decide +kernel) rfl, ok_sel 2 (q := (m_R_endOfRun.1, 8)) (by decide +kernel)⟩, km_R_endOfRun⟩
theorem l_R_66 : KVi "LeftTown$LawReader" 66 m_R_tokenOf 2 := ⟨ok_at 368 (by decide +kernel) rfl, ⟨ok_at 370 (by decide +kernel) rfl, ok_sel 3 (q := (m_R_tokenOf.1, 8)) (by decide +kernel)⟩, km_R_tokenOf⟩
theorem l_R_76 : KVi "LeftTown$LawReader" 76 m_R_wordOf 2 := ⟨ok_at 372 (by decide +kernel) rfl, ⟨ok_at 374 (by decide +kernel) rfl, ok_sel 4 (q := (m_R_wordOf.1, 8)) (by decide +kernel)⟩, km_R_wordOf⟩
theorem l_R_84 : KVi "LeftTown$LawReader" 84 m_R_isWord 3 := ⟨ok_at 377 (by decide +kernel) rfl, ⟨ok_at 379 (by decide +kernel) rfl, ok_sel 5 (q := (m_R_isWord.1, 8)) (by decide +kernel)⟩, km_R_isWord⟩
theorem l_R_118 : KVi "LeftTown$LawReader" 118 m_St_length 0 := ⟨ok_at 381 (by decide +kernel) rfl, ⟨ok_at 382 (by decide +kernel) rfl, ok_at 383 (by decide +kernel) rfl⟩, km_St_length⟩
theorem l_St_335 : KVi "java/lang/String" 335 m_St_coder 0 := ⟨ok_at 385 (by decide +kernel) rfl, ⟨ok_at 386 (by decide +kernel) rfl, ok_at 387 (by decide +kernel) rfl⟩, km_St_coder⟩
theorem l_R_124 : KVi "LeftTown$LawReader" 124 m_St_charAt 1 := ⟨ok_at 391 (by decide +kernel) rfl, ⟨ok_at 392 (by decide +kernel) rfl, ok_at 393 (by decide +kernel) rfl⟩, km_St_charAt⟩
theorem l_St_492 : KVi "java/lang/String" 492 m_St_isLatin1 0 := ⟨ok_at 395 (by decide +kernel) rfl, ⟨ok_at 396 (by decide +kernel) rfl, ok_at 397 (by decide +kernel) rfl⟩, km_St_isLatin1⟩
theorem l_St_495 : KSt "java/lang/String" 495 m_S1_charAt 2 := ⟨ok_at 399 (by decide +kernel) rfl, ok_at 400 (by decide +kernel) rfl, km_S1_charAt⟩
theorem l_S1_9 : KSt "java/lang/StringLatin1" 9 m_St_checkIndex 2 := ⟨ok_at 402 (by decide +kernel) rfl, ok_at 403 (by decide +kernel) rfl, km_St_checkIndex⟩
theorem l_St_1059 : KSt "java/lang/String" 1059 m_Pr_checkIndex 3 := ⟨ok_at 407 (by decide +kernel) rfl, ok_at 408 (by decide +kernel) rfl, km_Pr_checkIndex⟩
theorem l_St_498 : KSt "java/lang/String" 498 m_S2_charAt 2 := ⟨ok_at 410 (by decide +kernel) rfl, ok_at 411 (by decide +kernel) rfl, km_S2_charAt⟩
theorem l_S2_67 : KSt "java/lang/StringUTF16" 67 m_S2_checkIndex 2 := ⟨ok_at 413 (by decide +kernel) rfl, ok_at 414 (by decide +kernel) rfl, km_S2_checkIndex⟩
theorem l_S2_48 : KSt "java/lang/StringUTF16" 48 m_S2_length 1 := ⟨ok_at 416 (by decide +kernel) rfl, ok_at 417 (by decide +kernel) rfl, km_S2_length⟩
theorem l_S2_414 : KSt "java/lang/StringUTF16" 414 m_St_checkIndex 2 := ⟨ok_at 419 (by decide +kernel) rfl, ok_at 403 (by decide +kernel) rfl, km_St_checkIndex⟩
theorem l_S2_71 : KSt "java/lang/StringUTF16" 71 m_S2_getChar 2 := ⟨ok_at 420 (by decide +kernel) rfl, ok_at 421 (by decide +kernel) rfl, km_S2_getChar⟩
theorem l_R_79 : KVi "LeftTown$LawReader" 79 m_R_numberOf 2 := ⟨ok_at 444 (by decide +kernel) rfl, ⟨ok_at 446 (by decide +kernel) rfl, ok_sel 6 (q := (m_R_numberOf.1, 8)) (by decide +kernel)⟩, km_R_numberOf⟩
theorem l_R_36 : KVi "LeftTown$LawReader" 36 m_A_clear 0 := ⟨ok_at 448 (by decide +kernel) rfl, ⟨ok_at 449 (by decide +kernel) rfl, ok_at 450 (by decide +kernel) rfl⟩, km_A_clear⟩
theorem l_R_42 : KVi "LeftTown$LawReader" 42 m_R_advance 0 := ⟨ok_at 452 (by decide +kernel) rfl, ⟨ok_at 454 (by decide +kernel) rfl, ok_sel 7 (q := (m_R_advance.1, 8)) (by decide +kernel)⟩, km_R_advance⟩
theorem l_R_48 : KVi "LeftTown$LawReader" 48 m_R_readClause 0 := ⟨ok_at 456 (by decide +kernel) rfl, ⟨ok_at 458 (by decide +kernel) rfl, ok_sel 8 (q := (m_R_readClause.1, 8)) (by decide +kernel)⟩, km_R_readClause⟩
theorem l_R_128 : KVi "LeftTown$LawReader" 128 m_R_readCond 1 := ⟨ok_at 460 (by decide +kernel) rfl, ⟨ok_at 462 (by decide +kernel) rfl, ok_sel 9 (q := (m_R_readCond.1, 8)) (by decide +kernel)⟩, km_R_readCond⟩
theorem l_R_135 : KVi "LeftTown$LawReader" 135 m_R_readAll 1 := ⟨ok_at 464 (by decide +kernel) rfl, ⟨ok_at 466 (by decide +kernel) rfl, ok_sel 10 (q := (m_R_readAll.1, 8)) (by decide +kernel)⟩, km_R_readAll⟩
theorem l_R_142 : KVi "LeftTown$LawReader" 142 m_R_readOne 1 := ⟨ok_at 468 (by decide +kernel) rfl, ⟨ok_at 470 (by decide +kernel) rfl, ok_sel 11 (q := (m_R_readOne.1, 8)) (by decide +kernel)⟩, km_R_readOne⟩
theorem l_R_145 : KVi "LeftTown$LawReader" 145 m_R_readInner 1 := ⟨ok_at 472 (by decide +kernel) rfl, ⟨ok_at 474 (by decide +kernel) rfl, ok_sel 12 (q := (m_R_readInner.1, 8)) (by decide +kernel)⟩, km_R_readInner⟩
theorem l_R_148 : KVi "LeftTown$LawReader" 148 m_R_readComparison 0 := ⟨ok_at 476 (by decide +kernel) rfl, ⟨ok_at 478 (by decide +kernel) rfl, ok_sel 13 (q := (m_R_readComparison.1, 8)) (by decide +kernel)⟩, km_R_readComparison⟩
theorem l_R_138 : KVi "LeftTown$LawReader" 138 m_A_addStep 3 := ⟨ok_at 480 (by decide +kernel) rfl, ⟨ok_at 481 (by decide +kernel) rfl, ok_at 482 (by decide +kernel) rfl⟩, km_A_addStep⟩
theorem l_R_131 : KVi "LeftTown$LawReader" 131 m_A_addClause 1 := ⟨ok_at 484 (by decide +kernel) rfl, ⟨ok_at 485 (by decide +kernel) rfl, ok_at 486 (by decide +kernel) rfl⟩, km_A_addClause⟩
theorem l_X_119 : KVi "LeftTown" 119 m_A_copyFrom 1 := ⟨ok_at 488 (by decide +kernel) rfl, ⟨ok_at 489 (by decide +kernel) rfl, ok_at 490 (by decide +kernel) rfl⟩, km_A_copyFrom⟩
theorem l_law_57 : KVi "LeftTownLaw" 57 m_X_turn 2 := ⟨ok_at 495 (by decide +kernel) rfl, ⟨ok_at 496 (by decide +kernel) rfl, ok_at 497 (by decide +kernel) rfl⟩, km_X_turn⟩
theorem l_X_125 : KSt "LeftTown" 125 m_X_isCourseNumber 1 := ⟨ok_at 499 (by decide +kernel) rfl, ok_at 500 (by decide +kernel) rfl, km_X_isCourseNumber⟩
theorem l_X_128 : KVi "LeftTown" 128 m_T_turnNow 2 := ⟨ok_at 502 (by decide +kernel) rfl, ⟨ok_at 503 (by decide +kernel) rfl, ok_at 504 (by decide +kernel) rfl⟩, km_T_turnNow⟩
theorem l_T_71 : KVi "LeftTown$Town" 71 m_T_kindOf 2 := ⟨ok_at 506 (by decide +kernel) rfl, ⟨ok_at 507 (by decide +kernel) rfl, ok_at 508 (by decide +kernel) rfl⟩, km_T_kindOf⟩
theorem l_T_75 : KVi "LeftTown$Town" 75 m_T_arrowOf 2 := ⟨ok_at 510 (by decide +kernel) rfl, ⟨ok_at 512 (by decide +kernel) rfl, ok_sel 14 (q := (m_T_arrowOf.1, 9)) (by decide +kernel)⟩, km_T_arrowOf⟩
theorem l_law_61 : KVi "LeftTownLaw" 61 m_X_may 3 := ⟨ok_at 514 (by decide +kernel) rfl, ⟨ok_at 515 (by decide +kernel) rfl, ok_at 516 (by decide +kernel) rfl⟩, km_X_may⟩
theorem l_X_131 : KSt "LeftTown" 131 m_X_isWidth 1 := ⟨ok_at 518 (by decide +kernel) rfl, ok_at 519 (by decide +kernel) rfl, km_X_isWidth⟩
theorem l_X_134 : KVi "LeftTown" 134 m_T_mayGo 3 := ⟨ok_at 521 (by decide +kernel) rfl, ⟨ok_at 522 (by decide +kernel) rfl, ok_at 523 (by decide +kernel) rfl⟩, km_T_mayGo⟩
theorem l_T_53 : KVi "LeftTown$Town" 53 m_T_wideOf 1 := ⟨ok_at 525 (by decide +kernel) rfl, ⟨ok_at 526 (by decide +kernel) rfl, ok_at 527 (by decide +kernel) rfl⟩, km_T_wideOf⟩
theorem l_T_78 : KVi "LeftTown$Town" 78 m_T_longOf 1 := ⟨ok_at 529 (by decide +kernel) rfl, ⟨ok_at 530 (by decide +kernel) rfl, ok_at 531 (by decide +kernel) rfl⟩, km_T_longOf⟩
theorem l_T_84 : KVi "LeftTown$Town" 84 m_A_allows 2 := ⟨ok_at 533 (by decide +kernel) rfl, ⟨ok_at 534 (by decide +kernel) rfl, ok_at 535 (by decide +kernel) rfl⟩, km_A_allows⟩
theorem l_A_34 : KSn "LeftTown$Law" 34 m_X_isUnder 2 := ⟨⟨_, List.mem_of_getElem? (i := 8) rfl⟩, ok_at 538 (by decide +kernel) rfl, km_X_isUnder⟩
theorem l_A_38 : KVi "LeftTown$Law" 38 m_A_holds 2 := ⟨ok_at 540 (by decide +kernel) rfl, ⟨ok_at 542 (by decide +kernel) rfl, ok_sel 15 (q := (m_A_holds.1, 7)) (by decide +kernel)⟩, km_A_holds⟩
theorem l_A_44 : KVi "LeftTown$Law" 44 m_A_compares 2 := ⟨ok_at 545 (by decide +kernel) rfl, ⟨ok_at 547 (by decide +kernel) rfl, ok_sel 16 (q := (m_A_compares.1, 7)) (by decide +kernel)⟩, km_A_compares⟩
theorem l_A_47 : KSt "LeftTown$Law" 47 m_A_valueOf 2 := ⟨ok_at 549 (by decide +kernel) rfl, ok_at 550 (by decide +kernel) rfl, km_A_valueOf⟩
theorem l_law_66 : KVi "LeftTownLaw" 66 m_X_walker 2 := ⟨ok_at 552 (by decide +kernel) rfl, ⟨ok_at 553 (by decide +kernel) rfl, ok_at 554 (by decide +kernel) rfl⟩, km_X_walker⟩
theorem l_X_138 : KVi "LeftTown" 138 m_T_hasCourseFor 2 := ⟨ok_at 556 (by decide +kernel) rfl, ⟨ok_at 557 (by decide +kernel) rfl, ok_at 558 (by decide +kernel) rfl⟩, km_T_hasCourseFor⟩
theorem l_X_144 : KVi "LeftTown" 144 m_T_addWalker 2 := ⟨ok_at 560 (by decide +kernel) rfl, ⟨ok_at 561 (by decide +kernel) rfl, ok_at 562 (by decide +kernel) rfl⟩, km_T_addWalker⟩
theorem l_law_70 : KVi "LeftTownLaw" 70 m_X_walkerOf 2 := ⟨ok_at 564 (by decide +kernel) rfl, ⟨ok_at 565 (by decide +kernel) rfl, ok_at 566 (by decide +kernel) rfl⟩, km_X_walkerOf⟩
theorem l_X_147 : KVi "LeftTown" 147 m_T_hasWalker 1 := ⟨ok_at 568 (by decide +kernel) rfl, ⟨ok_at 569 (by decide +kernel) rfl, ok_at 570 (by decide +kernel) rfl⟩, km_T_hasWalker⟩
theorem l_law_74 : KVi "LeftTownLaw" 74 m_X_go 2 := ⟨ok_at 572 (by decide +kernel) rfl, ⟨ok_at 573 (by decide +kernel) rfl, ok_at 574 (by decide +kernel) rfl⟩, km_X_go⟩
theorem l_X_153 : KVi "LeftTown" 153 m_T_longOf 1 := ⟨ok_at 576 (by decide +kernel) rfl, ⟨ok_at 530 (by decide +kernel) rfl, ok_at 531 (by decide +kernel) rfl⟩, km_T_longOf⟩
theorem l_law_78 : KVi "LeftTownLaw" 78 m_X_put 2 := ⟨ok_at 577 (by decide +kernel) rfl, ⟨ok_at 578 (by decide +kernel) rfl, ok_at 579 (by decide +kernel) rfl⟩, km_X_put⟩
theorem l_law_82 : KVi "LeftTownLaw" 82 m_X_far 3 := ⟨ok_at 581 (by decide +kernel) rfl, ⟨ok_at 582 (by decide +kernel) rfl, ok_at 583 (by decide +kernel) rfl⟩, km_X_far⟩
theorem l_X_156 : KVi "LeftTown" 156 m_T_hasCourse 1 := ⟨ok_at 585 (by decide +kernel) rfl, ⟨ok_at 279 (by decide +kernel) rfl, ok_at 280 (by decide +kernel) rfl⟩, km_T_hasCourse⟩
theorem l_X_159 : KVi "LeftTown" 159 m_W_prepare 3 := ⟨ok_at 586 (by decide +kernel) rfl, ⟨ok_at 587 (by decide +kernel) rfl, ok_at 588 (by decide +kernel) rfl⟩, km_W_prepare⟩
theorem l_W_82 : KVi "LeftTown$Ways" 82 m_W_look 1 := ⟨ok_at 590 (by decide +kernel) rfl, ⟨ok_at 591 (by decide +kernel) rfl, ok_at 592 (by decide +kernel) rfl⟩, km_W_look⟩
theorem l_W_52 : KSt "LeftTown$Ways" 52 m_Ma_min 2 := ⟨ok_at 594 (by decide +kernel) rfl, ok_at 595 (by decide +kernel) rfl, km_Ma_min⟩
theorem l_W_65 : KVi "LeftTown$Ways" 65 m_T_hasCourse 1 := ⟨ok_at 597 (by decide +kernel) rfl, ⟨ok_at 279 (by decide +kernel) rfl, ok_at 280 (by decide +kernel) rfl⟩, km_T_hasCourse⟩
theorem l_W_69 : KVi "LeftTown$Ways" 69 m_T_hasWay 1 := ⟨ok_at 598 (by decide +kernel) rfl, ⟨ok_at 283 (by decide +kernel) rfl, ok_at 284 (by decide +kernel) rfl⟩, km_T_hasWay⟩
theorem l_W_72 : KVi "LeftTown$Ways" 72 m_T_beginOf 1 := ⟨ok_at 599 (by decide +kernel) rfl, ⟨ok_at 291 (by decide +kernel) rfl, ok_at 292 (by decide +kernel) rfl⟩, km_T_beginOf⟩
theorem l_W_76 : KVi "LeftTown$Ways" 76 m_T_endOf 1 := ⟨ok_at 600 (by decide +kernel) rfl, ⟨ok_at 299 (by decide +kernel) rfl, ok_at 300 (by decide +kernel) rfl⟩, km_T_endOf⟩
theorem l_W_79 : KVi "LeftTown$Ways" 79 m_T_longOf 1 := ⟨ok_at 601 (by decide +kernel) rfl, ⟨ok_at 530 (by decide +kernel) rfl, ok_at 531 (by decide +kernel) rfl⟩, km_T_longOf⟩
theorem l_W_86 : KVi "LeftTown$Ways" 86 m_T_mayGo 3 := ⟨ok_at 602 (by decide +kernel) rfl, ⟨ok_at 522 (by decide +kernel) rfl, ok_at 523 (by decide +kernel) rfl⟩, km_T_mayGo⟩
theorem l_W_90 : KVi "LeftTown$Ways" 90 m_T_isOneOf 3 := ⟨ok_at 603 (by decide +kernel) rfl, ⟨ok_at 604 (by decide +kernel) rfl, ok_at 605 (by decide +kernel) rfl⟩, km_T_isOneOf⟩
theorem l_X_163 : KVi "LeftTown" 163 m_W_measureTo 1 := ⟨ok_at 607 (by decide +kernel) rfl, ⟨ok_at 608 (by decide +kernel) rfl, ok_at 609 (by decide +kernel) rfl⟩, km_W_measureTo⟩
theorem l_W_94 : KVi "LeftTown$Ways" 94 m_W_measure 1 := ⟨ok_at 611 (by decide +kernel) rfl, ⟨ok_at 613 (by decide +kernel) rfl, ok_sel 17 (q := (m_W_measure.1, 12)) (by decide +kernel)⟩, km_W_measure⟩
theorem l_W_98 : KSn "LeftTown$Ways" 98 m_X_isIn 2 := ⟨⟨_, List.mem_of_getElem? (i := 9) rfl⟩, ok_at 616 (by decide +kernel) rfl, km_X_isIn⟩
theorem l_W_102 : KVi "LeftTown$Ways" 102 m_W_nearest 1 := ⟨ok_at 619 (by decide +kernel) rfl, ⟨ok_at 621 (by decide +kernel) rfl, ok_sel 18 (q := (m_W_nearest.1, 12)) (by decide +kernel)⟩, km_W_nearest⟩
theorem l_X_167 : KVi "LeftTown" 167 m_W_leftFrom 1 := ⟨ok_at 624 (by decide +kernel) rfl, ⟨ok_at 625 (by decide +kernel) rfl, ok_at 626 (by decide +kernel) rfl⟩, km_W_leftFrom⟩
theorem l_law_86 : KVi "LeftTownLaw" 86 m_X_first 3 := ⟨ok_at 629 (by decide +kernel) rfl, ⟨ok_at 630 (by decide +kernel) rfl, ok_at 631 (by decide +kernel) rfl⟩, km_X_first⟩
theorem l_X_171 : KVi "LeftTown" 171 m_W_firstFrom 1 := ⟨ok_at 633 (by decide +kernel) rfl, ⟨ok_at 634 (by decide +kernel) rfl, ok_at 635 (by decide +kernel) rfl⟩, km_W_firstFrom⟩
theorem l_W_108 : KVi "LeftTown$Ways" 108 m_W_leftFrom 1 := ⟨ok_at 637 (by decide +kernel) rfl, ⟨ok_at 625 (by decide +kernel) rfl, ok_at 626 (by decide +kernel) rfl⟩, km_W_leftFrom⟩
theorem l_law_90 : KVi "LeftTownLaw" 90 m_X_free 2 := ⟨ok_at 638 (by decide +kernel) rfl, ⟨ok_at 639 (by decide +kernel) rfl, ok_at 640 (by decide +kernel) rfl⟩, km_X_free⟩
theorem l_X_174 : KVi "LeftTown" 174 m_W_look 1 := ⟨ok_at 642 (by decide +kernel) rfl, ⟨ok_at 591 (by decide +kernel) rfl, ok_at 592 (by decide +kernel) rfl⟩, km_W_look⟩
theorem l_X_178 : KVi "LeftTown" 178 m_W_measureFreely 0 := ⟨ok_at 643 (by decide +kernel) rfl, ⟨ok_at 644 (by decide +kernel) rfl, ok_at 645 (by decide +kernel) rfl⟩, km_W_measureFreely⟩
theorem l_W_137 : KSt "LeftTown$Ways" 137 m_Ar_fill_aIIV 2 := ⟨ok_at 647 (by decide +kernel) rfl, ok_at 648 (by decide +kernel) rfl, km_Ar_fill_aIIV⟩
theorem l_W_143 : KVi "LeftTown$Ways" 143 m_W_goBy 3 := ⟨ok_at 650 (by decide +kernel) rfl, ⟨ok_at 652 (by decide +kernel) rfl, ok_sel 19 (q := (m_W_goBy.1, 12)) (by decide +kernel)⟩, km_W_goBy⟩
theorem l_law_94 : KVi "LeftTownLaw" 94 m_X_reach 2 := ⟨ok_at 654 (by decide +kernel) rfl, ⟨ok_at 655 (by decide +kernel) rfl, ok_at 656 (by decide +kernel) rfl⟩, km_X_reach⟩
theorem l_X_184 : KVi "LeftTown" 184 m_W_crossingsFrom 1 := ⟨ok_at 658 (by decide +kernel) rfl, ⟨ok_at 659 (by decide +kernel) rfl, ok_at 660 (by decide +kernel) rfl⟩, km_W_crossingsFrom⟩
theorem l_W_119 : KVi "LeftTown$Ways" 119 m_W_coursesFrom 2 := ⟨ok_at 662 (by decide +kernel) rfl, ⟨ok_at 664 (by decide +kernel) rfl, ok_sel 20 (q := (m_W_coursesFrom.1, 12)) (by decide +kernel)⟩, km_W_coursesFrom⟩
theorem l_W_114 : KSt "LeftTown$Ways" 114 m_Lo_numberOfTrailingZeros 1 := ⟨ok_at 666 (by decide +kernel) rfl, ok_at 667 (by decide +kernel) rfl, km_Lo_numberOfTrailingZeros⟩
theorem l_Lo_311 : KSt "java/lang/Long" 311 m_It_numberOfTrailingZeros 1 := ⟨ok_at 669 (by decide +kernel) rfl, ok_at 670 (by decide +kernel) rfl, km_It_numberOfTrailingZeros⟩
theorem l_W_123 : KVi "LeftTown$Ways" 123 m_W_endsOf 1 := ⟨ok_at 673 (by decide +kernel) rfl, ⟨ok_at 675 (by decide +kernel) rfl, ok_sel 21 (q := (m_W_endsOf.1, 12)) (by decide +kernel)⟩, km_W_endsOf⟩
theorem l_law_98 : KVi "LeftTownLaw" 98 m_X_pairs 1 := ⟨ok_at 677 (by decide +kernel) rfl, ⟨ok_at 678 (by decide +kernel) rfl, ok_at 679 (by decide +kernel) rfl⟩, km_X_pairs⟩
theorem l_X_191 : KVi "LeftTown" 191 m_W_countPairs 1 := ⟨ok_at 681 (by decide +kernel) rfl, ⟨ok_at 682 (by decide +kernel) rfl, ok_at 683 (by decide +kernel) rfl⟩, km_W_countPairs⟩
theorem l_W_126 : KSt "LeftTown$Ways" 126 m_It_bitCount 1 := ⟨ok_at 685 (by decide +kernel) rfl, ok_at 686 (by decide +kernel) rfl, km_It_bitCount⟩
theorem l_law_102 : KVi "LeftTownLaw" 102 m_X_never 1 := ⟨ok_at 691 (by decide +kernel) rfl, ⟨ok_at 692 (by decide +kernel) rfl, ok_at 693 (by decide +kernel) rfl⟩, km_X_never⟩
theorem l_X_195 : KVi "LeftTown" 195 m_W_crossingsNeverReached 0 := ⟨ok_at 695 (by decide +kernel) rfl, ⟨ok_at 696 (by decide +kernel) rfl, ok_at 697 (by decide +kernel) rfl⟩, km_W_crossingsNeverReached⟩
theorem l_W_131 : KVi "LeftTown$Ways" 131 m_W_crossingsFrom 1 := ⟨ok_at 699 (by decide +kernel) rfl, ⟨ok_at 659 (by decide +kernel) rfl, ok_at 660 (by decide +kernel) rfl⟩, km_W_crossingsFrom⟩
theorem l_law_106 : KVi "LeftTownLaw" 106 m_X_parts 1 := ⟨ok_at 700 (by decide +kernel) rfl, ⟨ok_at 701 (by decide +kernel) rfl, ok_at 702 (by decide +kernel) rfl⟩, km_X_parts⟩
theorem l_X_198 : KVi "LeftTown" 198 m_W_countParts 0 := ⟨ok_at 704 (by decide +kernel) rfl, ⟨ok_at 705 (by decide +kernel) rfl, ok_at 706 (by decide +kernel) rfl⟩, km_W_countParts⟩
theorem l_W_134 : KVi "LeftTown$Ways" 134 m_W_isWithLesser 1 := ⟨ok_at 708 (by decide +kernel) rfl, ⟨ok_at 710 (by decide +kernel) rfl, ok_sel 22 (q := (m_W_isWithLesser.1, 12)) (by decide +kernel)⟩, km_W_isWithLesser⟩
theorem l_law_110 : KVi "LeftTownLaw" 110 m_X_loop 2 := ⟨ok_at 712 (by decide +kernel) rfl, ⟨ok_at 713 (by decide +kernel) rfl, ok_at 714 (by decide +kernel) rfl⟩, km_X_loop⟩
theorem l_X_201 : KVi "LeftTown" 201 m_W_loopOf 1 := ⟨ok_at 716 (by decide +kernel) rfl, ⟨ok_at 717 (by decide +kernel) rfl, ok_at 718 (by decide +kernel) rfl⟩, km_W_loopOf⟩
theorem l_law_114 : KVi "LeftTownLaw" 114 m_X_worst 1 := ⟨ok_at 720 (by decide +kernel) rfl, ⟨ok_at 721 (by decide +kernel) rfl, ok_at 722 (by decide +kernel) rfl⟩, km_X_worst⟩
theorem l_X_204 : KVi "LeftTown" 204 m_W_worstDetour 0 := ⟨ok_at 724 (by decide +kernel) rfl, ⟨ok_at 725 (by decide +kernel) rfl, ok_at 726 (by decide +kernel) rfl⟩, km_W_worstDetour⟩
theorem l_W_147 : KVi "LeftTown$Ways" 147 m_W_measureTo 1 := ⟨ok_at 728 (by decide +kernel) rfl, ⟨ok_at 608 (by decide +kernel) rfl, ok_at 609 (by decide +kernel) rfl⟩, km_W_measureTo⟩
theorem l_W_151 : KSt "LeftTown$Ways" 151 m_Ma_max 2 := ⟨ok_at 729 (by decide +kernel) rfl, ok_at 730 (by decide +kernel) rfl, km_Ma_max⟩
theorem l_law_118 : KVi "LeftTownLaw" 118 m_X_opened 1 := ⟨ok_at 732 (by decide +kernel) rfl, ⟨ok_at 733 (by decide +kernel) rfl, ok_at 734 (by decide +kernel) rfl⟩, km_X_opened⟩
theorem l_X_207 : KVi "LeftTown" 207 m_W_bestToOpen 0 := ⟨ok_at 736 (by decide +kernel) rfl, ⟨ok_at 737 (by decide +kernel) rfl, ok_at 738 (by decide +kernel) rfl⟩, km_W_bestToOpen⟩
theorem l_W_154 : KVi "LeftTown$Ways" 154 m_W_countPairs 1 := ⟨ok_at 740 (by decide +kernel) rfl, ⟨ok_at 682 (by decide +kernel) rfl, ok_at 683 (by decide +kernel) rfl⟩, km_W_countPairs⟩
theorem l_law_122 : KVi "LeftTownLaw" 122 m_X_meet 3 := ⟨ok_at 742 (by decide +kernel) rfl, ⟨ok_at 743 (by decide +kernel) rfl, ok_at 744 (by decide +kernel) rfl⟩, km_X_meet⟩
theorem l_X_214 : KSt "LeftTown" 214 m_Ar_fill_aIIV 2 := ⟨ok_at 746 (by decide +kernel) rfl, ok_at 648 (by decide +kernel) rfl, km_Ar_fill_aIIV⟩
theorem l_X_220 : KVi "LeftTown" 220 m_W_raiseGreater 1 := ⟨ok_at 747 (by decide +kernel) rfl, ⟨ok_at 748 (by decide +kernel) rfl, ok_at 749 (by decide +kernel) rfl⟩, km_W_raiseGreater⟩
theorem l_X_223 : KVi "LeftTown" 223 m_W_meetingPlace 0 := ⟨ok_at 751 (by decide +kernel) rfl, ⟨ok_at 752 (by decide +kernel) rfl, ok_at 753 (by decide +kernel) rfl⟩, km_W_meetingPlace⟩
theorem l_law_126 : KVi "LeftTownLaw" 126 m_X_other 1 := ⟨ok_at 755 (by decide +kernel) rfl, ⟨ok_at 756 (by decide +kernel) rfl, ok_at 757 (by decide +kernel) rfl⟩, km_X_other⟩
theorem l_law_130 : KVi "LeftTownLaw" 130 m_X_prove 2 := ⟨ok_at 759 (by decide +kernel) rfl, ⟨ok_at 760 (by decide +kernel) rfl, ok_at 761 (by decide +kernel) rfl⟩, km_X_prove⟩
theorem l_X_226 : KVi "LeftTown" 226 m_W_writeRows 2 := ⟨ok_at 763 (by decide +kernel) rfl, ⟨ok_at 764 (by decide +kernel) rfl, ok_at 765 (by decide +kernel) rfl⟩, km_W_writeRows⟩
theorem l_W_111 : KVi "LeftTown$Ways" 111 m_W_firstFrom 1 := ⟨ok_at 767 (by decide +kernel) rfl, ⟨ok_at 634 (by decide +kernel) rfl, ok_at 635 (by decide +kernel) rfl⟩, km_W_firstFrom⟩
theorem l_law_134 : KVi "LeftTownLaw" 134 m_X_row 2 := ⟨ok_at 768 (by decide +kernel) rfl, ⟨ok_at 769 (by decide +kernel) rfl, ok_at 770 (by decide +kernel) rfl⟩, km_X_row⟩
theorem l_X_230 : KVi "LeftTown" 230 m_X_hasRow 2 := ⟨ok_at 772 (by decide +kernel) rfl, ⟨ok_at 774 (by decide +kernel) rfl, ok_sel 23 (q := (m_X_hasRow.1, 9)) (by decide +kernel)⟩, km_X_hasRow⟩
theorem l_law_138 : KVi "LeftTownLaw" 138 m_X_alterRow 3 := ⟨ok_at 776 (by decide +kernel) rfl, ⟨ok_at 777 (by decide +kernel) rfl, ok_at 778 (by decide +kernel) rfl⟩, km_X_alterRow⟩
theorem l_law_142 : KVi "LeftTownLaw" 142 m_X_judge 1 := ⟨ok_at 780 (by decide +kernel) rfl, ⟨ok_at 781 (by decide +kernel) rfl, ok_at 782 (by decide +kernel) rfl⟩, km_X_judge⟩
theorem l_X_233 : KVi "LeftTown" 233 m_T_endOf 1 := ⟨ok_at 784 (by decide +kernel) rfl, ⟨ok_at 299 (by decide +kernel) rfl, ok_at 300 (by decide +kernel) rfl⟩, km_T_endOf⟩
theorem l_law_146 : KVi "LeftTownLaw" 146 m_X_sheet 3 := ⟨ok_at 785 (by decide +kernel) rfl, ⟨ok_at 786 (by decide +kernel) rfl, ok_at 787 (by decide +kernel) rfl⟩, km_X_sheet⟩
theorem l_X_236 : KVi "LeftTown" 236 m_H_hasSheet 1 := ⟨ok_at 789 (by decide +kernel) rfl, ⟨ok_at 790 (by decide +kernel) rfl, ok_at 791 (by decide +kernel) rfl⟩, km_H_hasSheet⟩
theorem l_X_239 : KSt "LeftTown" 239 m_X_isSort 1 := ⟨ok_at 793 (by decide +kernel) rfl, ok_at 794 (by decide +kernel) rfl, km_X_isSort⟩
theorem l_X_242 : KVi "LeftTown" 242 m_H_lay 3 := ⟨ok_at 796 (by decide +kernel) rfl, ⟨ok_at 797 (by decide +kernel) rfl, ok_at 798 (by decide +kernel) rfl⟩, km_H_lay⟩
theorem l_H_32 : KSt "LeftTown$Host" 32 m_Ar_fill_aJJV 2 := ⟨ok_at 800 (by decide +kernel) rfl, ok_at 801 (by decide +kernel) rfl, km_Ar_fill_aJJV⟩
theorem l_law_150 : KVi "LeftTownLaw" 150 m_X_write 3 := ⟨ok_at 803 (by decide +kernel) rfl, ⟨ok_at 804 (by decide +kernel) rfl, ok_at 805 (by decide +kernel) rfl⟩, km_X_write⟩
theorem l_X_249 : KVi "LeftTown" 249 m_H_hasItem 2 := ⟨ok_at 807 (by decide +kernel) rfl, ⟨ok_at 808 (by decide +kernel) rfl, ok_at 809 (by decide +kernel) rfl⟩, km_H_hasItem⟩
theorem l_X_256 : KSt "LeftTown" 256 m_X_narrowed 2 := ⟨ok_at 811 (by decide +kernel) rfl, ok_at 812 (by decide +kernel) rfl, km_X_narrowed⟩
theorem l_law_154 : KVi "LeftTownLaw" 154 m_X_item 3 := ⟨ok_at 814 (by decide +kernel) rfl, ⟨ok_at 815 (by decide +kernel) rfl, ok_at 816 (by decide +kernel) rfl⟩, km_X_item⟩
theorem l_X_260 : KVi "LeftTown" 260 m_H_refuseAs 2 := ⟨ok_at 818 (by decide +kernel) rfl, ⟨ok_at 819 (by decide +kernel) rfl, ok_at 820 (by decide +kernel) rfl⟩, km_H_refuseAs⟩
theorem l_law_158 : KVi "LeftTownLaw" 158 m_X_wides 3 := ⟨ok_at 822 (by decide +kernel) rfl, ⟨ok_at 823 (by decide +kernel) rfl, ok_at 824 (by decide +kernel) rfl⟩, km_X_wides⟩
theorem l_X_263 : KVi "LeftTown" 263 m_X_widen 2 := ⟨ok_at 826 (by decide +kernel) rfl, ⟨ok_at 327 (by decide +kernel) rfl, ok_at 328 (by decide +kernel) rfl⟩, km_X_widen⟩
theorem l_law_162 : KVi "LeftTownLaw" 162 m_X_shelf 4 := ⟨ok_at 827 (by decide +kernel) rfl, ⟨ok_at 828 (by decide +kernel) rfl, ok_at 829 (by decide +kernel) rfl⟩, km_X_shelf⟩
theorem l_X_266 : KVi "LeftTown" 266 m_H_hasShelf 1 := ⟨ok_at 831 (by decide +kernel) rfl, ⟨ok_at 832 (by decide +kernel) rfl, ok_at 833 (by decide +kernel) rfl⟩, km_H_hasShelf⟩
theorem l_X_269 : KVi "LeftTown" 269 m_X_shelveTurn 3 := ⟨ok_at 835 (by decide +kernel) rfl, ⟨ok_at 837 (by decide +kernel) rfl, ok_sel 24 (q := (m_X_shelveTurn.1, 9)) (by decide +kernel)⟩, km_X_shelveTurn⟩
theorem l_X_276 : KVi "LeftTown" 276 m_H_hold 4 := ⟨ok_at 839 (by decide +kernel) rfl, ⟨ok_at 840 (by decide +kernel) rfl, ok_at 841 (by decide +kernel) rfl⟩, km_H_hold⟩
theorem l_X_273 : KVi "LeftTown" 273 m_H_shelveRow 2 := ⟨ok_at 843 (by decide +kernel) rfl, ⟨ok_at 844 (by decide +kernel) rfl, ok_at 845 (by decide +kernel) rfl⟩, km_H_shelveRow⟩
theorem l_H_38 : KVi "LeftTown$Host" 38 m_H_hold 4 := ⟨ok_at 847 (by decide +kernel) rfl, ⟨ok_at 840 (by decide +kernel) rfl, ok_at 841 (by decide +kernel) rfl⟩, km_H_hold⟩
theorem l_law_167 : KVi "LeftTownLaw" 167 m_X_taken 2 := ⟨ok_at 848 (by decide +kernel) rfl, ⟨ok_at 849 (by decide +kernel) rfl, ok_at 850 (by decide +kernel) rfl⟩, km_X_taken⟩
theorem l_X_289 : KVi "LeftTown" 289 m_X_kindOnShelf 1 := ⟨ok_at 852 (by decide +kernel) rfl, ⟨ok_at 854 (by decide +kernel) rfl, ok_sel 25 (q := (m_X_kindOnShelf.1, 9)) (by decide +kernel)⟩, km_X_kindOnShelf⟩
theorem l_X_292 : KSt "LeftTown" 292 m_X_isUnder 2 := ⟨ok_at 856 (by decide +kernel) rfl, ok_at 538 (by decide +kernel) rfl, km_X_isUnder⟩
theorem l_law_171 : KVi "LeftTownLaw" 171 m_X_act 3 := ⟨ok_at 857 (by decide +kernel) rfl, ⟨ok_at 858 (by decide +kernel) rfl, ok_at 859 (by decide +kernel) rfl⟩, km_X_act⟩
theorem l_X_295 : KSt "LeftTown" 295 m_X_thingOf 3 := ⟨ok_at 861 (by decide +kernel) rfl, ok_at 862 (by decide +kernel) rfl, km_X_thingOf⟩
theorem l_X_329 : KIn "LeftTown" 329 m_G1_init 2 := ⟨ok_at 866 (by decide +kernel) rfl, ⟨ok_at 867 (by decide +kernel) rfl, rfl, rfl⟩, km_G1_init⟩
theorem l_G1_1 : KIn "LeftTown$On" 1 m_G_init 2 := ⟨ok_at 869 (by decide +kernel) rfl, ⟨ok_at 870 (by decide +kernel) rfl, rfl, rfl⟩, km_G_init⟩
theorem l_X_334 : KIn "LeftTown" 334 m_G2_init 2 := ⟨ok_at 896 (by decide +kernel) rfl, ⟨ok_at 897 (by decide +kernel) rfl, rfl, rfl⟩, km_G2_init⟩
theorem l_G2_1 : KIn "LeftTown$Left" 1 m_G_init 2 := ⟨ok_at 899 (by decide +kernel) rfl, ⟨ok_at 870 (by decide +kernel) rfl, rfl, rfl⟩, km_G_init⟩
theorem l_X_337 : KIn "LeftTown" 337 m_G3_init 2 := ⟨ok_at 907 (by decide +kernel) rfl, ⟨ok_at 908 (by decide +kernel) rfl, rfl, rfl⟩, km_G3_init⟩
theorem l_G3_1 : KIn "LeftTown$Sharp" 1 m_G2_init 2 := ⟨ok_at 910 (by decide +kernel) rfl, ⟨ok_at 897 (by decide +kernel) rfl, rfl, rfl⟩, km_G2_init⟩
theorem l_X_340 : KIn "LeftTown" 340 m_G4_init 2 := ⟨ok_at 918 (by decide +kernel) rfl, ⟨ok_at 919 (by decide +kernel) rfl, rfl, rfl⟩, km_G4_init⟩
theorem l_G4_1 : KIn "LeftTown$Right" 1 m_G_init 2 := ⟨ok_at 921 (by decide +kernel) rfl, ⟨ok_at 870 (by decide +kernel) rfl, rfl, rfl⟩, km_G_init⟩
theorem l_X_343 : KIn "LeftTown" 343 m_G5_init 2 := ⟨ok_at 929 (by decide +kernel) rfl, ⟨ok_at 930 (by decide +kernel) rfl, rfl, rfl⟩, km_G5_init⟩
theorem l_G5_1 : KIn "LeftTown$Round" 1 m_G4_init 2 := ⟨ok_at 932 (by decide +kernel) rfl, ⟨ok_at 919 (by decide +kernel) rfl, rfl, rfl⟩, km_G4_init⟩
theorem l_law_175 : KVi "LeftTownLaw" 175 m_X_trace 1 := ⟨ok_at 1031 (by decide +kernel) rfl, ⟨ok_at 1032 (by decide +kernel) rfl, ok_at 1033 (by decide +kernel) rfl⟩, km_X_trace⟩
theorem l_law_179 : KVi "LeftTownLaw" 179 m_X_many 1 := ⟨ok_at 1035 (by decide +kernel) rfl, ⟨ok_at 1036 (by decide +kernel) rfl, ok_at 1037 (by decide +kernel) rfl⟩, km_X_many⟩
theorem l_X_319 : KVi "LeftTown" 319 m_T_countCourses 0 := ⟨ok_at 1039 (by decide +kernel) rfl, ⟨ok_at 1040 (by decide +kernel) rfl, ok_at 1041 (by decide +kernel) rfl⟩, km_T_countCourses⟩
theorem l_law_183 : KVi "LeftTownLaw" 183 m_X_keep 0 := ⟨ok_at 1043 (by decide +kernel) rfl, ⟨ok_at 1044 (by decide +kernel) rfl, ok_at 1045 (by decide +kernel) rfl⟩, km_X_keep⟩
theorem l_X_325 : KVi "LeftTown" 325 m_T_copyFrom 1 := ⟨ok_at 1047 (by decide +kernel) rfl, ⟨ok_at 1048 (by decide +kernel) rfl, ok_at 1049 (by decide +kernel) rfl⟩, km_T_copyFrom⟩
theorem l_T_94 : KVi "LeftTown$Town" 94 m_A_copyFrom 1 := ⟨ok_at 1052 (by decide +kernel) rfl, ⟨ok_at 489 (by decide +kernel) rfl, ok_at 490 (by decide +kernel) rfl⟩, km_A_copyFrom⟩
theorem l_law_187 : KVi "LeftTownLaw" 187 m_X_again 0 := ⟨ok_at 1053 (by decide +kernel) rfl, ⟨ok_at 1054 (by decide +kernel) rfl, ok_at 1055 (by decide +kernel) rfl⟩, km_X_again⟩
theorem l_law_12 : KIn "LeftTownLaw" 12 m_M_init 0 := ⟨ok_at 1059 (by decide +kernel) rfl, ⟨ok_at 1060 (by decide +kernel) rfl, rfl, rfl⟩, km_M_init⟩
theorem l_law_17 : KVi "LeftTownLaw" 17 m_M_crossing 2 := ⟨ok_at 1183 (by decide +kernel) rfl, ⟨ok_at 1184 (by decide +kernel) rfl, ok_at 1185 (by decide +kernel) rfl⟩, km_M_crossing⟩
theorem l_M_105 : KSt "LeftTownModel" 105 m_M_in 3 := ⟨ok_at 1187 (by decide +kernel) rfl, ok_at 1188 (by decide +kernel) rfl, km_M_in⟩
theorem l_M_116 : KVi "LeftTownModel" 116 m_M_isThere 2 := ⟨ok_at 1190 (by decide +kernel) rfl, ⟨ok_at 1192 (by decide +kernel) rfl, ok_sel 26 (q := (m_M_isThere.1, 35)) (by decide +kernel)⟩, km_M_isThere⟩
theorem l_M_109 : KVi "LeftTownModel" 109 m_M_xOf 1 := ⟨ok_at 1194 (by decide +kernel) rfl, ⟨ok_at 1196 (by decide +kernel) rfl, ok_sel 27 (q := (m_M_xOf.1, 35)) (by decide +kernel)⟩, km_M_xOf⟩
theorem l_M_113 : KVi "LeftTownModel" 113 m_M_yOf 1 := ⟨ok_at 1198 (by decide +kernel) rfl, ⟨ok_at 1200 (by decide +kernel) rfl, ok_sel 28 (q := (m_M_yOf.1, 35)) (by decide +kernel)⟩, km_M_yOf⟩
theorem l_law_21 : KVi "LeftTownLaw" 21 m_M_crossingOf 2 := ⟨ok_at 1202 (by decide +kernel) rfl, ⟨ok_at 1203 (by decide +kernel) rfl, ok_at 1204 (by decide +kernel) rfl⟩, km_M_crossingOf⟩
theorem l_M_120 : KVi "LeftTownModel" 120 m_M_is 2 := ⟨ok_at 1206 (by decide +kernel) rfl, ⟨ok_at 1208 (by decide +kernel) rfl, ok_sel 29 (q := (m_M_is.1, 35)) (by decide +kernel)⟩, km_M_is⟩
theorem l_M_123 : KVi "LeftTownModel" 123 m_M_isCourse 1 := ⟨ok_at 1210 (by decide +kernel) rfl, ⟨ok_at 1212 (by decide +kernel) rfl, ok_sel 30 (q := (m_M_isCourse.1, 35)) (by decide +kernel)⟩, km_M_isCourse⟩
theorem l_M_133 : KVi "LeftTownModel" 133 m_M_streetIs 2 := ⟨ok_at 1214 (by decide +kernel) rfl, ⟨ok_at 1216 (by decide +kernel) rfl, ok_sel 31 (q := (m_M_streetIs.1, 35)) (by decide +kernel)⟩, km_M_streetIs⟩
theorem l_M_127 : KVi "LeftTownModel" 127 m_M_beginOf 1 := ⟨ok_at 1218 (by decide +kernel) rfl, ⟨ok_at 1220 (by decide +kernel) rfl, ok_sel 32 (q := (m_M_beginOf.1, 35)) (by decide +kernel)⟩, km_M_beginOf⟩
theorem l_M_130 : KVi "LeftTownModel" 130 m_M_endOf 1 := ⟨ok_at 1222 (by decide +kernel) rfl, ⟨ok_at 1224 (by decide +kernel) rfl, ok_sel 33 (q := (m_M_endOf.1, 35)) (by decide +kernel)⟩, km_M_endOf⟩
theorem l_law_26 : KVi "LeftTownLaw" 26 m_M_street 4 := ⟨ok_at 1226 (by decide +kernel) rfl, ⟨ok_at 1227 (by decide +kernel) rfl, ok_at 1228 (by decide +kernel) rfl⟩, km_M_street⟩
theorem l_law_30 : KVi "LeftTownLaw" 30 m_M_streetOf 2 := ⟨ok_at 1230 (by decide +kernel) rfl, ⟨ok_at 1231 (by decide +kernel) rfl, ok_at 1232 (by decide +kernel) rfl⟩, km_M_streetOf⟩
theorem l_M_142 : KVi "LeftTownModel" 142 m_M_longOf 1 := ⟨ok_at 1234 (by decide +kernel) rfl, ⟨ok_at 1236 (by decide +kernel) rfl, ok_sel 34 (q := (m_M_longOf.1, 35)) (by decide +kernel)⟩, km_M_longOf⟩
theorem l_M_137 : KSt "LeftTownModel" 137 m_Ma_abs 1 := ⟨ok_at 1238 (by decide +kernel) rfl, ok_at 315 (by decide +kernel) rfl, km_Ma_abs⟩
theorem l_law_35 : KVi "LeftTownLaw" 35 m_M_shut 2 := ⟨ok_at 1239 (by decide +kernel) rfl, ⟨ok_at 1240 (by decide +kernel) rfl, ok_at 1241 (by decide +kernel) rfl⟩, km_M_shut⟩
theorem l_M_145 : KVi "LeftTownModel" 145 m_M_comes 2 := ⟨ok_at 1243 (by decide +kernel) rfl, ⟨ok_at 1245 (by decide +kernel) rfl, ok_sel 35 (q := (m_M_comes.1, 35)) (by decide +kernel)⟩, km_M_comes⟩
theorem l_law_39 : KVi "LeftTownLaw" 39 m_M_widen 2 := ⟨ok_at 1247 (by decide +kernel) rfl, ⟨ok_at 1248 (by decide +kernel) rfl, ok_at 1249 (by decide +kernel) rfl⟩, km_M_widen⟩
theorem l_law_44 : KVi "LeftTownLaw" 44 m_M_day 1 := ⟨ok_at 1251 (by decide +kernel) rfl, ⟨ok_at 1252 (by decide +kernel) rfl, ok_at 1253 (by decide +kernel) rfl⟩, km_M_day⟩
theorem l_law_60 : KVi "LeftTownLaw" 60 m_M_turn 2 := ⟨ok_at 1255 (by decide +kernel) rfl, ⟨ok_at 1256 (by decide +kernel) rfl, ok_at 1257 (by decide +kernel) rfl⟩, km_M_turn⟩
theorem l_M_151 : KSt "LeftTownModel" 151 m_M_isIndex 1 := ⟨ok_at 1259 (by decide +kernel) rfl, ok_at 1260 (by decide +kernel) rfl, km_M_isIndex⟩
theorem l_M_154 : KVi "LeftTownModel" 154 m_M_kindOf 2 := ⟨ok_at 1262 (by decide +kernel) rfl, ⟨ok_at 1264 (by decide +kernel) rfl, ok_sel 36 (q := (m_M_kindOf.1, 35)) (by decide +kernel)⟩, km_M_kindOf⟩
theorem l_law_65 : KVi "LeftTownLaw" 65 m_M_may 3 := ⟨ok_at 1266 (by decide +kernel) rfl, ⟨ok_at 1267 (by decide +kernel) rfl, ok_at 1268 (by decide +kernel) rfl⟩, km_M_may⟩
theorem l_M_175 : KSt "LeftTownModel" 175 m_M_isWidth 1 := ⟨ok_at 1270 (by decide +kernel) rfl, ok_at 1271 (by decide +kernel) rfl, km_M_isWidth⟩
theorem l_M_178 : KVi "LeftTownModel" 178 m_M_mayGo 3 := ⟨ok_at 1273 (by decide +kernel) rfl, ⟨ok_at 1275 (by decide +kernel) rfl, ok_sel 37 (q := (m_M_mayGo.1, 35)) (by decide +kernel)⟩, km_M_mayGo⟩
theorem l_M_157 : KVi "LeftTownModel" 157 m_M_broadOf 1 := ⟨ok_at 1277 (by decide +kernel) rfl, ⟨ok_at 1279 (by decide +kernel) rfl, ok_sel 38 (q := (m_M_broadOf.1, 35)) (by decide +kernel)⟩, km_M_broadOf⟩
theorem l_M_160 : KSt "LeftTownModel" 160 m_M_hasBit 2 := ⟨ok_at 1281 (by decide +kernel) rfl, ok_at 1282 (by decide +kernel) rfl, km_M_hasBit⟩
theorem l_M_164 : KVi "LeftTownModel" 164 m_M_saysSo 4 := ⟨ok_at 1284 (by decide +kernel) rfl, ⟨ok_at 1286 (by decide +kernel) rfl, ok_sel 39 (q := (m_M_saysSo.1, 35)) (by decide +kernel)⟩, km_M_saysSo⟩
theorem l_M_168 : KSt "LeftTownModel" 168 m_M_isUnder 2 := ⟨ok_at 1288 (by decide +kernel) rfl, ok_at 1289 (by decide +kernel) rfl, km_M_isUnder⟩
theorem l_M_148 : KSt "LeftTownModel" 148 m_M_above 1 := ⟨ok_at 1291 (by decide +kernel) rfl, ok_at 1292 (by decide +kernel) rfl, km_M_above⟩
theorem l_M_171 : KVi "LeftTownModel" 171 m_M_holds 5 := ⟨ok_at 1294 (by decide +kernel) rfl, ⟨ok_at 1296 (by decide +kernel) rfl, ok_sel 40 (q := (m_M_holds.1, 35)) (by decide +kernel)⟩, km_M_holds⟩
theorem l_M_263 : KVi "LeftTownModel" 263 m_M_factOf 4 := ⟨ok_at 1298 (by decide +kernel) rfl, ⟨ok_at 1300 (by decide +kernel) rfl, ok_sel 41 (q := (m_M_factOf.1, 35)) (by decide +kernel)⟩, km_M_factOf⟩
theorem l_M_267 : KSt "LeftTownModel" 267 m_M_did 3 := ⟨ok_at 1302 (by decide +kernel) rfl, ok_at 1303 (by decide +kernel) rfl, km_M_did⟩
theorem l_law_51 : KVi "LeftTownLaw" 51 m_M_feed 2 := ⟨ok_at 1305 (by decide +kernel) rfl, ⟨ok_at 1306 (by decide +kernel) rfl, ok_at 1307 (by decide +kernel) rfl⟩, km_M_feed⟩
theorem l_law_56 : KVi "LeftTownLaw" 56 m_M_law 0 := ⟨ok_at 1310 (by decide +kernel) rfl, ⟨ok_at 1311 (by decide +kernel) rfl, ok_at 1312 (by decide +kernel) rfl⟩, km_M_law⟩
theorem l_M_216 : KVi "LeftTownModel" 216 m_M_next 0 := ⟨ok_at 1314 (by decide +kernel) rfl, ⟨ok_at 1316 (by decide +kernel) rfl, ok_sel 42 (q := (m_M_next.1, 35)) (by decide +kernel)⟩, km_M_next⟩
theorem l_M_192 : KVi "LeftTownModel" 192 m_M_byteAt 1 := ⟨ok_at 1318 (by decide +kernel) rfl, ⟨ok_at 1320 (by decide +kernel) rfl, ok_sel 43 (q := (m_M_byteAt.1, 35)) (by decide +kernel)⟩, km_M_byteAt⟩
theorem l_M_198 : KSt "LeftTownModel" 198 m_M_isLetter 1 := ⟨ok_at 1322 (by decide +kernel) rfl, ok_at 1323 (by decide +kernel) rfl, km_M_isLetter⟩
theorem l_M_201 : KSt "LeftTownModel" 201 m_M_isDigit 1 := ⟨ok_at 1325 (by decide +kernel) rfl, ok_at 1326 (by decide +kernel) rfl, km_M_isDigit⟩
theorem l_M_227 : KVi "LeftTownModel" 227 m_M_isWord 1 := ⟨ok_at 1328 (by decide +kernel) rfl, ⟨ok_at 1330 (by decide +kernel) rfl, ok_sel 44 (q := (m_M_isWord.1, 35)) (by decide +kernel)⟩, km_M_isWord⟩
theorem l_M_204 : KVi "LeftTownModel" 204 m_St_length 0 := ⟨ok_at 1332 (by decide +kernel) rfl, ⟨ok_at 382 (by decide +kernel) rfl, ok_at 383 (by decide +kernel) rfl⟩, km_St_length⟩
theorem l_M_208 : KVi "LeftTownModel" 208 m_St_charAt 1 := ⟨ok_at 1333 (by decide +kernel) rfl, ⟨ok_at 392 (by decide +kernel) rfl, ok_at 393 (by decide +kernel) rfl⟩, km_St_charAt⟩
theorem l_M_231 : KVi "LeftTownModel" 231 m_M_must 1 := ⟨ok_at 1334 (by decide +kernel) rfl, ⟨ok_at 1336 (by decide +kernel) rfl, ok_sel 45 (q := (m_M_must.1, 35)) (by decide +kernel)⟩, km_M_must⟩
theorem l_M_252 : KVi "LeftTownModel" 252 m_M_condition 0 := ⟨ok_at 1339 (by decide +kernel) rfl, ⟨ok_at 1341 (by decide +kernel) rfl, ok_sel 46 (q := (m_M_condition.1, 35)) (by decide +kernel)⟩, km_M_condition⟩
theorem l_M_222 : KVi "LeftTownModel" 222 m_M_all 0 := ⟨ok_at 1343 (by decide +kernel) rfl, ⟨ok_at 1345 (by decide +kernel) rfl, ok_sel 47 (q := (m_M_all.1, 35)) (by decide +kernel)⟩, km_M_all⟩
theorem l_M_239 : KVi "LeftTownModel" 239 m_M_one 0 := ⟨ok_at 1347 (by decide +kernel) rfl, ⟨ok_at 1349 (by decide +kernel) rfl, ok_sel 48 (q := (m_M_one.1, 35)) (by decide +kernel)⟩, km_M_one⟩
theorem l_M_235 : KVi "LeftTownModel" 235 m_M_tells 1 := ⟨ok_at 1352 (by decide +kernel) rfl, ⟨ok_at 1354 (by decide +kernel) rfl, ok_sel 49 (q := (m_M_tells.1, 35)) (by decide +kernel)⟩, km_M_tells⟩
theorem l_M_246 : KVi "LeftTownModel" 246 m_M_isSign 1 := ⟨ok_at 1356 (by decide +kernel) rfl, ⟨ok_at 1358 (by decide +kernel) rfl, ok_sel 50 (q := (m_M_isSign.1, 35)) (by decide +kernel)⟩, km_M_isSign⟩
theorem l_M_255 : KVi "LeftTownModel" 255 m_M_value 0 := ⟨ok_at 1360 (by decide +kernel) rfl, ⟨ok_at 1362 (by decide +kernel) rfl, ok_sel 51 (q := (m_M_value.1, 35)) (by decide +kernel)⟩, km_M_value⟩
theorem l_M_258 : KSt "LeftTownModel" 258 m_Ma_max 2 := ⟨ok_at 1364 (by decide +kernel) rfl, ok_at 730 (by decide +kernel) rfl, km_Ma_max⟩
theorem l_law_69 : KVi "LeftTownLaw" 69 m_M_walker 2 := ⟨ok_at 1367 (by decide +kernel) rfl, ⟨ok_at 1368 (by decide +kernel) rfl, ok_at 1369 (by decide +kernel) rfl⟩, km_M_walker⟩
theorem l_law_73 : KVi "LeftTownLaw" 73 m_M_walkerOf 2 := ⟨ok_at 1371 (by decide +kernel) rfl, ⟨ok_at 1372 (by decide +kernel) rfl, ok_at 1373 (by decide +kernel) rfl⟩, km_M_walkerOf⟩
theorem l_M_270 : KVi "LeftTownModel" 270 m_M_walkerIs 2 := ⟨ok_at 1375 (by decide +kernel) rfl, ⟨ok_at 1377 (by decide +kernel) rfl, ok_sel 52 (q := (m_M_walkerIs.1, 35)) (by decide +kernel)⟩, km_M_walkerIs⟩
theorem l_law_77 : KVi "LeftTownLaw" 77 m_M_go 2 := ⟨ok_at 1379 (by decide +kernel) rfl, ⟨ok_at 1380 (by decide +kernel) rfl, ok_at 1381 (by decide +kernel) rfl⟩, km_M_go⟩
theorem l_law_81 : KVi "LeftTownLaw" 81 m_M_put 2 := ⟨ok_at 1383 (by decide +kernel) rfl, ⟨ok_at 1384 (by decide +kernel) rfl, ok_at 1385 (by decide +kernel) rfl⟩, km_M_put⟩
theorem l_law_85 : KVi "LeftTownLaw" 85 m_M_far 3 := ⟨ok_at 1387 (by decide +kernel) rfl, ⟨ok_at 1388 (by decide +kernel) rfl, ok_at 1389 (by decide +kernel) rfl⟩, km_M_far⟩
theorem l_M_280 : KVi "LeftTownModel" 280 m_M_findOnto 2 := ⟨ok_at 1391 (by decide +kernel) rfl, ⟨ok_at 1393 (by decide +kernel) rfl, ok_sel 53 (q := (m_M_findOnto.1, 35)) (by decide +kernel)⟩, km_M_findOnto⟩
theorem l_M_284 : KVi "LeftTownModel" 284 m_M_farOf 2 := ⟨ok_at 1395 (by decide +kernel) rfl, ⟨ok_at 1397 (by decide +kernel) rfl, ok_sel 54 (q := (m_M_farOf.1, 35)) (by decide +kernel)⟩, km_M_farOf⟩
theorem l_M_274 : KVi "LeftTownModel" 274 m_M_findFar 1 := ⟨ok_at 1399 (by decide +kernel) rfl, ⟨ok_at 1401 (by decide +kernel) rfl, ok_sel 55 (q := (m_M_findFar.1, 35)) (by decide +kernel)⟩, km_M_findFar⟩
theorem l_M_277 : KVi "LeftTownModel" 277 m_M_farTo 1 := ⟨ok_at 1404 (by decide +kernel) rfl, ⟨ok_at 1406 (by decide +kernel) rfl, ok_sel 56 (q := (m_M_farTo.1, 35)) (by decide +kernel)⟩, km_M_farTo⟩
theorem l_law_89 : KVi "LeftTownLaw" 89 m_M_first 3 := ⟨ok_at 1408 (by decide +kernel) rfl, ⟨ok_at 1409 (by decide +kernel) rfl, ok_at 1410 (by decide +kernel) rfl⟩, km_M_first⟩
theorem l_M_287 : KVi "LeftTownModel" 287 m_M_firstOf 2 := ⟨ok_at 1412 (by decide +kernel) rfl, ⟨ok_at 1414 (by decide +kernel) rfl, ok_sel 57 (q := (m_M_firstOf.1, 35)) (by decide +kernel)⟩, km_M_firstOf⟩
theorem l_law_93 : KVi "LeftTownLaw" 93 m_M_free 2 := ⟨ok_at 1416 (by decide +kernel) rfl, ⟨ok_at 1417 (by decide +kernel) rfl, ok_at 1418 (by decide +kernel) rfl⟩, km_M_free⟩
theorem l_M_293 : KVi "LeftTownModel" 293 m_M_findFree 1 := ⟨ok_at 1420 (by decide +kernel) rfl, ⟨ok_at 1422 (by decide +kernel) rfl, ok_sel 58 (q := (m_M_findFree.1, 35)) (by decide +kernel)⟩, km_M_findFree⟩
theorem l_M_290 : KSt "LeftTownModel" 290 m_Ma_min 2 := ⟨ok_at 1424 (by decide +kernel) rfl, ok_at 595 (by decide +kernel) rfl, km_Ma_min⟩
theorem l_law_97 : KVi "LeftTownLaw" 97 m_M_reach 2 := ⟨ok_at 1425 (by decide +kernel) rfl, ⟨ok_at 1426 (by decide +kernel) rfl, ok_at 1427 (by decide +kernel) rfl⟩, km_M_reach⟩
theorem l_M_298 : KVi "LeftTownModel" 298 m_M_comeTo 1 := ⟨ok_at 1429 (by decide +kernel) rfl, ⟨ok_at 1431 (by decide +kernel) rfl, ok_sel 59 (q := (m_M_comeTo.1, 35)) (by decide +kernel)⟩, km_M_comeTo⟩
theorem l_M_302 : KVi "LeftTownModel" 302 m_M_endsOf 1 := ⟨ok_at 1434 (by decide +kernel) rfl, ⟨ok_at 1436 (by decide +kernel) rfl, ok_sel 60 (q := (m_M_endsOf.1, 35)) (by decide +kernel)⟩, km_M_endsOf⟩
theorem l_law_101 : KVi "LeftTownLaw" 101 m_M_pairs 1 := ⟨ok_at 1438 (by decide +kernel) rfl, ⟨ok_at 1439 (by decide +kernel) rfl, ok_at 1440 (by decide +kernel) rfl⟩, km_M_pairs⟩
theorem l_M_309 : KVi "LeftTownModel" 309 m_M_pairsBy 1 := ⟨ok_at 1442 (by decide +kernel) rfl, ⟨ok_at 1444 (by decide +kernel) rfl, ok_sel 61 (q := (m_M_pairsBy.1, 35)) (by decide +kernel)⟩, km_M_pairsBy⟩
theorem l_M_306 : KSt "LeftTownModel" 306 m_M_ones 1 := ⟨ok_at 1446 (by decide +kernel) rfl, ok_at 1447 (by decide +kernel) rfl, km_M_ones⟩
theorem l_law_105 : KVi "LeftTownLaw" 105 m_M_never 1 := ⟨ok_at 1449 (by decide +kernel) rfl, ⟨ok_at 1450 (by decide +kernel) rfl, ok_at 1451 (by decide +kernel) rfl⟩, km_M_never⟩
theorem l_law_109 : KVi "LeftTownLaw" 109 m_M_parts 1 := ⟨ok_at 1453 (by decide +kernel) rfl, ⟨ok_at 1454 (by decide +kernel) rfl, ok_at 1455 (by decide +kernel) rfl⟩, km_M_parts⟩
theorem l_law_113 : KVi "LeftTownLaw" 113 m_M_loop 2 := ⟨ok_at 1457 (by decide +kernel) rfl, ⟨ok_at 1458 (by decide +kernel) rfl, ok_at 1459 (by decide +kernel) rfl⟩, km_M_loop⟩
theorem l_law_117 : KVi "LeftTownLaw" 117 m_M_worst 1 := ⟨ok_at 1461 (by decide +kernel) rfl, ⟨ok_at 1462 (by decide +kernel) rfl, ok_at 1463 (by decide +kernel) rfl⟩, km_M_worst⟩
theorem l_law_121 : KVi "LeftTownLaw" 121 m_M_opened 1 := ⟨ok_at 1465 (by decide +kernel) rfl, ⟨ok_at 1466 (by decide +kernel) rfl, ok_at 1467 (by decide +kernel) rfl⟩, km_M_opened⟩
theorem l_law_125 : KVi "LeftTownLaw" 125 m_M_meet 3 := ⟨ok_at 1469 (by decide +kernel) rfl, ⟨ok_at 1470 (by decide +kernel) rfl, ok_at 1471 (by decide +kernel) rfl⟩, km_M_meet⟩
theorem l_M_312 : KVi "LeftTownModel" 312 m_M_farBy 2 := ⟨ok_at 1473 (by decide +kernel) rfl, ⟨ok_at 1475 (by decide +kernel) rfl, ok_sel 62 (q := (m_M_farBy.1, 35)) (by decide +kernel)⟩, km_M_farBy⟩
theorem l_law_129 : KVi "LeftTownLaw" 129 m_M_other 1 := ⟨ok_at 1477 (by decide +kernel) rfl, ⟨ok_at 1478 (by decide +kernel) rfl, ok_at 1479 (by decide +kernel) rfl⟩, km_M_other⟩
theorem l_law_133 : KVi "LeftTownLaw" 133 m_M_prove 2 := ⟨ok_at 1481 (by decide +kernel) rfl, ⟨ok_at 1482 (by decide +kernel) rfl, ok_at 1483 (by decide +kernel) rfl⟩, km_M_prove⟩
theorem l_law_137 : KVi "LeftTownLaw" 137 m_M_row 2 := ⟨ok_at 1485 (by decide +kernel) rfl, ⟨ok_at 1486 (by decide +kernel) rfl, ok_at 1487 (by decide +kernel) rfl⟩, km_M_row⟩
theorem l_M_318 : KVi "LeftTownModel" 318 m_M_isRow 2 := ⟨ok_at 1489 (by decide +kernel) rfl, ⟨ok_at 1491 (by decide +kernel) rfl, ok_sel 63 (q := (m_M_isRow.1, 35)) (by decide +kernel)⟩, km_M_isRow⟩
theorem l_law_141 : KVi "LeftTownLaw" 141 m_M_alterRow 3 := ⟨ok_at 1493 (by decide +kernel) rfl, ⟨ok_at 1494 (by decide +kernel) rfl, ok_at 1495 (by decide +kernel) rfl⟩, km_M_alterRow⟩
theorem l_law_145 : KVi "LeftTownLaw" 145 m_M_judge 1 := ⟨ok_at 1497 (by decide +kernel) rfl, ⟨ok_at 1498 (by decide +kernel) rfl, ok_at 1499 (by decide +kernel) rfl⟩, km_M_judge⟩
theorem l_law_149 : KVi "LeftTownLaw" 149 m_M_sheet 3 := ⟨ok_at 1501 (by decide +kernel) rfl, ⟨ok_at 1502 (by decide +kernel) rfl, ok_at 1503 (by decide +kernel) rfl⟩, km_M_sheet⟩
theorem l_M_321 : KSt "LeftTownModel" 321 m_M_isSheet 1 := ⟨ok_at 1505 (by decide +kernel) rfl, ok_at 1506 (by decide +kernel) rfl, km_M_isSheet⟩
theorem l_law_153 : KVi "LeftTownLaw" 153 m_M_write 3 := ⟨ok_at 1508 (by decide +kernel) rfl, ⟨ok_at 1509 (by decide +kernel) rfl, ok_at 1510 (by decide +kernel) rfl⟩, km_M_write⟩
theorem l_M_324 : KSt "LeftTownModel" 324 m_M_narrowed 2 := ⟨ok_at 1512 (by decide +kernel) rfl, ok_at 1513 (by decide +kernel) rfl, km_M_narrowed⟩
theorem l_law_157 : KVi "LeftTownLaw" 157 m_M_item 3 := ⟨ok_at 1515 (by decide +kernel) rfl, ⟨ok_at 1516 (by decide +kernel) rfl, ok_at 1517 (by decide +kernel) rfl⟩, km_M_item⟩
theorem l_law_161 : KVi "LeftTownLaw" 161 m_M_wides 3 := ⟨ok_at 1519 (by decide +kernel) rfl, ⟨ok_at 1520 (by decide +kernel) rfl, ok_at 1521 (by decide +kernel) rfl⟩, km_M_wides⟩
theorem l_M_327 : KVi "LeftTownModel" 327 m_M_widen 2 := ⟨ok_at 1523 (by decide +kernel) rfl, ⟨ok_at 1248 (by decide +kernel) rfl, ok_at 1249 (by decide +kernel) rfl⟩, km_M_widen⟩
theorem l_law_166 : KVi "LeftTownLaw" 166 m_M_shelf 4 := ⟨ok_at 1524 (by decide +kernel) rfl, ⟨ok_at 1525 (by decide +kernel) rfl, ok_at 1526 (by decide +kernel) rfl⟩, km_M_shelf⟩
theorem l_law_170 : KVi "LeftTownLaw" 170 m_M_taken 2 := ⟨ok_at 1528 (by decide +kernel) rfl, ⟨ok_at 1529 (by decide +kernel) rfl, ok_at 1530 (by decide +kernel) rfl⟩, km_M_taken⟩
theorem l_M_330 : KVi "LeftTownModel" 330 m_M_onShelf 1 := ⟨ok_at 1532 (by decide +kernel) rfl, ⟨ok_at 1534 (by decide +kernel) rfl, ok_sel 64 (q := (m_M_onShelf.1, 35)) (by decide +kernel)⟩, km_M_onShelf⟩
theorem l_law_174 : KVi "LeftTownLaw" 174 m_M_act 3 := ⟨ok_at 1536 (by decide +kernel) rfl, ⟨ok_at 1537 (by decide +kernel) rfl, ok_at 1538 (by decide +kernel) rfl⟩, km_M_act⟩
theorem l_M_358 : KVi "LeftTownModel" 358 m_M_voiced 2 := ⟨ok_at 1540 (by decide +kernel) rfl, ⟨ok_at 1542 (by decide +kernel) rfl, ok_sel 65 (q := (m_M_voiced.1, 35)) (by decide +kernel)⟩, km_M_voiced⟩
theorem l_M_342 : KVi "LeftTownModel" 342 m_M_bodyFrom 3 := ⟨ok_at 1544 (by decide +kernel) rfl, ⟨ok_at 1546 (by decide +kernel) rfl, ok_sel 66 (q := (m_M_bodyFrom.1, 35)) (by decide +kernel)⟩, km_M_bodyFrom⟩
theorem l_M_346 : KSt "LeftTownModel" 346 m_M_hasOwn 2 := ⟨ok_at 1548 (by decide +kernel) rfl, ok_at 1549 (by decide +kernel) rfl, km_M_hasOwn⟩
theorem l_M_352 : KVi "LeftTownModel" 352 m_M_body 3 := ⟨ok_at 1551 (by decide +kernel) rfl, ⟨ok_at 1553 (by decide +kernel) rfl, ok_sel 67 (q := (m_M_body.1, 35)) (by decide +kernel)⟩, km_M_body⟩
theorem l_M_355 : KVi "LeftTownModel" 355 m_M_began 1 := ⟨ok_at 1555 (by decide +kernel) rfl, ⟨ok_at 1557 (by decide +kernel) rfl, ok_sel 68 (q := (m_M_began.1, 35)) (by decide +kernel)⟩, km_M_began⟩
theorem l_law_178 : KVi "LeftTownLaw" 178 m_M_trace 1 := ⟨ok_at 1559 (by decide +kernel) rfl, ⟨ok_at 1560 (by decide +kernel) rfl, ok_at 1561 (by decide +kernel) rfl⟩, km_M_trace⟩
theorem l_law_182 : KVi "LeftTownLaw" 182 m_M_many 1 := ⟨ok_at 1563 (by decide +kernel) rfl, ⟨ok_at 1564 (by decide +kernel) rfl, ok_at 1565 (by decide +kernel) rfl⟩, km_M_many⟩
theorem l_law_186 : KVi "LeftTownLaw" 186 m_M_keep 0 := ⟨ok_at 1567 (by decide +kernel) rfl, ⟨ok_at 1568 (by decide +kernel) rfl, ok_at 1569 (by decide +kernel) rfl⟩, km_M_keep⟩
theorem l_M_361 : KSt "LeftTownModel" 361 m_M_copy 2 := ⟨ok_at 1571 (by decide +kernel) rfl, ok_at 1572 (by decide +kernel) rfl, km_M_copy⟩
theorem l_law_190 : KVi "LeftTownLaw" 190 m_M_again 0 := ⟨ok_at 1574 (by decide +kernel) rfl, ⟨ok_at 1575 (by decide +kernel) rfl, ok_at 1576 (by decide +kernel) rfl⟩, km_M_again⟩
