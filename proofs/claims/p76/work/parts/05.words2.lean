theorem kwX9_init : Kw yX9_init cX9_init 2 none 0 := ⟨bw_of (i := 24) (by decide +kernel) (by decide +kernel), wI_X9, by decide +kernel⟩
theorem kiX9_init : KwI yX9_init := ⟨bw_of (i := 23) (by decide +kernel) (by decide +kernel), by decide +kernel⟩
theorem kwX8_init : Kw yX8_init cX8_init 1 none 0 := ⟨bw_of (i := 32) (by decide +kernel) (by decide +kernel), wI_X8, by decide +kernel⟩
theorem kiX8_init : KwI yX8_init := ⟨bw_of (i := 31) (by decide +kernel) (by decide +kernel), by decide +kernel⟩
theorem kwX5_init : Kw yX5_init cX5_init 2 none 1 := ⟨bw_of (i := 48) (by decide +kernel) (by decide +kernel), wI_X5, by decide +kernel⟩
theorem kiX5_init : KwI yX5_init := ⟨bw_of (i := 47) (by decide +kernel) (by decide +kernel), by decide +kernel⟩
theorem kwX6_init : Kw yX6_init cX6_init 1 none 0 := ⟨bw_of (i := 78) (by decide +kernel) (by decide +kernel), wI_X6, by decide +kernel⟩
theorem kiX6_init : KwI yX6_init := ⟨bw_of (i := 77) (by decide +kernel) (by decide +kernel), by decide +kernel⟩
theorem kwX3_init : Kw yX3_init cX3_init 1 none 0 := ⟨bw_of (i := 84) (by decide +kernel) (by decide +kernel), wI_X3, by decide +kernel⟩
theorem kiX3_init : KwI yX3_init := ⟨bw_of (i := 83) (by decide +kernel) (by decide +kernel), by decide +kernel⟩
theorem kwX0_init : Kw yX0_init cX0_init 1 none 0 := ⟨bw_of (i := 117) (by decide +kernel) (by decide +kernel), wI_X0, by decide +kernel⟩
theorem kiX0_init : KwI yX0_init := ⟨bw_of (i := 116) (by decide +kernel) (by decide +kernel), by decide +kernel⟩
theorem kwX1_init : Kw yX1_init cX1_init 2 none 1 := ⟨bw_of (i := 251) (by decide +kernel) (by decide +kernel), wI_X1, by decide +kernel⟩
theorem kiX1_init : KwI yX1_init := ⟨bw_of (i := 250) (by decide +kernel) (by decide +kernel), by decide +kernel⟩
theorem kwX4_init : Kw yX4_init cX4_init 1 none 0 := ⟨bw_of (i := 306) (by decide +kernel) (by decide +kernel), wI_X4, by decide +kernel⟩
theorem kiX4_init : KwI yX4_init := ⟨bw_of (i := 305) (by decide +kernel) (by decide +kernel), by decide +kernel⟩
theorem kwX2_init : Kw yX2_init cX2_init 1 none 0 := ⟨bw_of (i := 322) (by decide +kernel) (by decide +kernel), wI_X2, by decide +kernel⟩
theorem kiX2_init : KwI yX2_init := ⟨bw_of (i := 321) (by decide +kernel) (by decide +kernel), by decide +kernel⟩
theorem kwX7_init : Kw yX7_init cX7_init 1 none 0 := ⟨bw_of (i := 345) (by decide +kernel) (by decide +kernel), wI_X7, by decide +kernel⟩
theorem kiX7_init : KwI yX7_init := ⟨bw_of (i := 344) (by decide +kernel) (by decide +kernel), by decide +kernel⟩
theorem kwX9_feed : Kw yX9_feed cX9_feed 6 (some .int) 5 := ⟨bw_of (i := 398) (by decide +kernel) (by decide +kernel), wI_X9, by decide +kernel⟩
theorem kvX9_feed : KwV yX9_feed := ⟨bw_of (i := 396) (by decide +kernel) (by decide +kernel), bw_of (i := 397) (by decide +kernel) (by decide +kernel)⟩
theorem kwX8_put : Kw yX8_put cX8_put 3 none 1 := ⟨bw_of (i := 402) (by decide +kernel) (by decide +kernel), wI_X8, by decide +kernel⟩
theorem kvX8_put : KwV yX8_put := ⟨bw_of (i := 401) (by decide +kernel) (by decide +kernel), bw_ofS (i := 0) (by decide +kernel) (by decide +kernel)⟩
theorem kwX9_end : Kw yX9_end cX9_end 2 (some .int) 1 := ⟨bw_of (i := 406) (by decide +kernel) (by decide +kernel), wI_X9, by decide +kernel⟩
theorem kvX9_end : KwV yX9_end := ⟨bw_of (i := 404) (by decide +kernel) (by decide +kernel), bw_of (i := 405) (by decide +kernel) (by decide +kernel)⟩
theorem kwX9_dukedom : Kw yX9_dukedom cX9_dukedom 2 (some .int) 0 := ⟨bw_of (i := 410) (by decide +kernel) (by decide +kernel), wI_X9, by decide +kernel⟩
theorem kvX9_dukedom : KwV yX9_dukedom := ⟨bw_of (i := 408) (by decide +kernel) (by decide +kernel), bw_of (i := 409) (by decide +kernel) (by decide +kernel)⟩
theorem kwX5_read : Kw yX5_read cX5_read 3 none 1 := ⟨bw_of (i := 414) (by decide +kernel) (by decide +kernel), wI_X5, by decide +kernel⟩
theorem kvX5_read : KwV yX5_read := ⟨bw_of (i := 413) (by decide +kernel) (by decide +kernel), bw_ofS (i := 1) (by decide +kernel) (by decide +kernel)⟩
theorem kwX6_clear : Kw yX6_clear cX6_clear 1 none 0 := ⟨bw_of (i := 418) (by decide +kernel) (by decide +kernel), wI_X6, by decide +kernel⟩
theorem kvX6_clear : KwV yX6_clear := ⟨bw_of (i := 417) (by decide +kernel) (by decide +kernel), bw_ofS (i := 2) (by decide +kernel) (by decide +kernel)⟩
theorem kwJ7_fill_53178 : Kw yJ7_fill_53178 cJ7_fill_53178 4 none 2 := ⟨bw_of (i := 421) (by decide +kernel) (by decide +kernel), wI_J7, by decide +kernel⟩
theorem ksJ7_fill_53178 : KwS yJ7_fill_53178 := bw_of (i := 420) (by decide +kernel) (by decide +kernel)
theorem kwX5_step : Kw yX5_step cX5_step 2 none 0 := ⟨bw_of (i := 425) (by decide +kernel) (by decide +kernel), wI_X5, by decide +kernel⟩
theorem kvX5_step : KwV yX5_step := ⟨bw_of (i := 424) (by decide +kernel) (by decide +kernel), bw_ofS (i := 3) (by decide +kernel) (by decide +kernel)⟩
theorem kwX8_at : Kw yX8_at cX8_at 2 (some .int) 1 := ⟨bw_of (i := 429) (by decide +kernel) (by decide +kernel), wI_X8, by decide +kernel⟩
theorem kvX8_at : KwV yX8_at := ⟨bw_of (i := 428) (by decide +kernel) (by decide +kernel), bw_ofS (i := 4) (by decide +kernel) (by decide +kernel)⟩
theorem kwX5_kindOf : Kw yX5_kindOf cX5_kindOf 1 (some .int) 1 := ⟨bw_of (i := 432) (by decide +kernel) (by decide +kernel), wI_X5, by decide +kernel⟩
theorem ksX5_kindOf : KwS yX5_kindOf := bw_of (i := 431) (by decide +kernel) (by decide +kernel)
theorem kwJ9_min_7cf53 : Kw yJ9_min_7cf53 cJ9_min_7cf53 2 (some .int) 2 := ⟨bw_of (i := 435) (by decide +kernel) (by decide +kernel), wI_J9, by decide +kernel⟩
theorem ksJ9_min_7cf53 : KwS yJ9_min_7cf53 := bw_of (i := 434) (by decide +kernel) (by decide +kernel)
theorem kwX5_isLong : Kw yX5_isLong cX5_isLong 1 (some .boolean) 1 := ⟨bw_of (i := 438) (by decide +kernel) (by decide +kernel), wI_X5, by decide +kernel⟩
theorem ksX5_isLong : KwS yX5_isLong := bw_of (i := 437) (by decide +kernel) (by decide +kernel)
theorem kwX5_line : Kw yX5_line cX5_line 2 none 1 := ⟨bw_of (i := 442) (by decide +kernel) (by decide +kernel), wI_X5, by decide +kernel⟩
theorem kvX5_line : KwV yX5_line := ⟨bw_of (i := 441) (by decide +kernel) (by decide +kernel), bw_ofS (i := 5) (by decide +kernel) (by decide +kernel)⟩
theorem kwX5_dukedomLine : Kw yX5_dukedomLine cX5_dukedomLine 2 none 1 := ⟨bw_of (i := 446) (by decide +kernel) (by decide +kernel), wI_X5, by decide +kernel⟩
theorem kvX5_dukedomLine : KwV yX5_dukedomLine := ⟨bw_of (i := 445) (by decide +kernel) (by decide +kernel), bw_ofS (i := 6) (by decide +kernel) (by decide +kernel)⟩
theorem kwX5_word : Kw yX5_word cX5_word 2 none 1 := ⟨bw_of (i := 451) (by decide +kernel) (by decide +kernel), wI_X5, by decide +kernel⟩
theorem kvX5_word : KwV yX5_word := ⟨bw_of (i := 450) (by decide +kernel) (by decide +kernel), bw_ofS (i := 7) (by decide +kernel) (by decide +kernel)⟩
theorem kwX5_isWord : Kw yX5_isWord cX5_isWord 3 (some .boolean) 1 := ⟨bw_of (i := 455) (by decide +kernel) (by decide +kernel), wI_X5, by decide +kernel⟩
theorem kvX5_isWord : KwV yX5_isWord := ⟨bw_of (i := 454) (by decide +kernel) (by decide +kernel), bw_ofS (i := 8) (by decide +kernel) (by decide +kernel)⟩
theorem kwJ0_length_8abf5 : Kw yJ0_length_8abf5 cJ0_length_8abf5 1 (some .int) 0 := ⟨bw_of (i := 459) (by decide +kernel) (by decide +kernel), wI_J0, by decide +kernel⟩
theorem kvJ0_length_8abf5 : KwV yJ0_length_8abf5 := ⟨bw_of (i := 457) (by decide +kernel) (by decide +kernel), bw_of (i := 458) (by decide +kernel) (by decide +kernel)⟩
theorem kwJ0_coder_7d493 : Kw yJ0_coder_7d493 cJ0_coder_7d493 1 (some .byte) 0 := ⟨bw_of (i := 463) (by decide +kernel) (by decide +kernel), wI_J0, by decide +kernel⟩
theorem kvJ0_coder_7d493 : KwV yJ0_coder_7d493 := ⟨bw_of (i := 461) (by decide +kernel) (by decide +kernel), bw_of (i := 462) (by decide +kernel) (by decide +kernel)⟩
theorem kwJ0_charAt_5068e : Kw yJ0_charAt_5068e cJ0_charAt_5068e 2 (some .char) 1 := ⟨bw_of (i := 469) (by decide +kernel) (by decide +kernel), wI_J0, by decide +kernel⟩
theorem kvJ0_charAt_5068e : KwV yJ0_charAt_5068e := ⟨bw_of (i := 467) (by decide +kernel) (by decide +kernel), bw_of (i := 468) (by decide +kernel) (by decide +kernel)⟩
theorem kwJ0_isLatin1_aae02 : Kw yJ0_isLatin1_aae02 cJ0_isLatin1_aae02 1 (some .boolean) 0 := ⟨bw_of (i := 473) (by decide +kernel) (by decide +kernel), wI_J0, by decide +kernel⟩
theorem kvJ0_isLatin1_aae02 : KwV yJ0_isLatin1_aae02 := ⟨bw_of (i := 471) (by decide +kernel) (by decide +kernel), bw_of (i := 472) (by decide +kernel) (by decide +kernel)⟩
theorem kwJ1_charAt_3b067 : Kw yJ1_charAt_3b067 cJ1_charAt_3b067 2 (some .char) 2 := ⟨bw_of (i := 476) (by decide +kernel) (by decide +kernel), wI_J1, by decide +kernel⟩
theorem ksJ1_charAt_3b067 : KwS yJ1_charAt_3b067 := bw_of (i := 475) (by decide +kernel) (by decide +kernel)
theorem kwJ0_checkIndex_df160 : Kw yJ0_checkIndex_df160 cJ0_checkIndex_df160 2 none 2 := ⟨bw_of (i := 479) (by decide +kernel) (by decide +kernel), wI_J0, by decide +kernel⟩
theorem ksJ0_checkIndex_df160 : KwS yJ0_checkIndex_df160 := bw_of (i := 478) (by decide +kernel) (by decide +kernel)
theorem kwJ3_checkIndex_8e157 : Kw yJ3_checkIndex_8e157 cJ3_checkIndex_8e157 3 (some .int) 3 := ⟨bw_of (i := 484) (by decide +kernel) (by decide +kernel), wI_J3, by decide +kernel⟩
theorem ksJ3_checkIndex_8e157 : KwS yJ3_checkIndex_8e157 := bw_of (i := 483) (by decide +kernel) (by decide +kernel)
theorem kwJ2_charAt_3b067 : Kw yJ2_charAt_3b067 cJ2_charAt_3b067 2 (some .char) 2 := ⟨bw_of (i := 487) (by decide +kernel) (by decide +kernel), wI_J2, by decide +kernel⟩
theorem ksJ2_charAt_3b067 : KwS yJ2_charAt_3b067 := bw_of (i := 486) (by decide +kernel) (by decide +kernel)
theorem kwJ2_checkIndex_2214a : Kw yJ2_checkIndex_2214a cJ2_checkIndex_2214a 2 none 2 := ⟨bw_of (i := 490) (by decide +kernel) (by decide +kernel), wI_J2, by decide +kernel⟩
theorem ksJ2_checkIndex_2214a : KwS yJ2_checkIndex_2214a := bw_of (i := 489) (by decide +kernel) (by decide +kernel)
theorem kwJ2_length_9d52b : Kw yJ2_length_9d52b cJ2_length_9d52b 1 (some .int) 1 := ⟨bw_of (i := 493) (by decide +kernel) (by decide +kernel), wI_J2, by decide +kernel⟩
theorem ksJ2_length_9d52b : KwS yJ2_length_9d52b := bw_of (i := 492) (by decide +kernel) (by decide +kernel)
theorem kwJ2_getChar_3b067 : Kw yJ2_getChar_3b067 cJ2_getChar_3b067 2 (some .char) 2 := ⟨bw_of (i := 497) (by decide +kernel) (by decide +kernel), wI_J2, by decide +kernel⟩
theorem ksJ2_getChar_3b067 : KwS yJ2_getChar_3b067 := bw_of (i := 496) (by decide +kernel) (by decide +kernel)
theorem kwX5_fail : Kw yX5_fail cX5_fail 2 none 1 := ⟨bw_of (i := 507) (by decide +kernel) (by decide +kernel), wI_X5, by decide +kernel⟩
theorem kvX5_fail : KwV yX5_fail := ⟨bw_of (i := 506) (by decide +kernel) (by decide +kernel), bw_ofS (i := 9) (by decide +kernel) (by decide +kernel)⟩
theorem kwX5_number : Kw yX5_number cX5_number 4 (some .int) 2 := ⟨bw_of (i := 512) (by decide +kernel) (by decide +kernel), wI_X5, by decide +kernel⟩
theorem kvX5_number : KwV yX5_number := ⟨bw_of (i := 511) (by decide +kernel) (by decide +kernel), bw_ofS (i := 10) (by decide +kernel) (by decide +kernel)⟩
theorem kwX5_rankLine : Kw yX5_rankLine cX5_rankLine 2 none 1 := ⟨bw_of (i := 519) (by decide +kernel) (by decide +kernel), wI_X5, by decide +kernel⟩
theorem kvX5_rankLine : KwV yX5_rankLine := ⟨bw_of (i := 518) (by decide +kernel) (by decide +kernel), bw_ofS (i := 11) (by decide +kernel) (by decide +kernel)⟩
theorem kwX5_plankLine : Kw yX5_plankLine cX5_plankLine 2 none 1 := ⟨bw_of (i := 528) (by decide +kernel) (by decide +kernel), wI_X5, by decide +kernel⟩
theorem kvX5_plankLine : KwV yX5_plankLine := ⟨bw_of (i := 527) (by decide +kernel) (by decide +kernel), bw_ofS (i := 12) (by decide +kernel) (by decide +kernel)⟩
theorem kwX5_rainLine : Kw yX5_rainLine cX5_rainLine 3 none 1 := ⟨bw_of (i := 534) (by decide +kernel) (by decide +kernel), wI_X5, by decide +kernel⟩
theorem kvX5_rainLine : KwV yX5_rainLine := ⟨bw_of (i := 533) (by decide +kernel) (by decide +kernel), bw_ofS (i := 13) (by decide +kernel) (by decide +kernel)⟩
theorem kwX5_frostLine : Kw yX5_frostLine cX5_frostLine 2 none 1 := ⟨bw_of (i := 540) (by decide +kernel) (by decide +kernel), wI_X5, by decide +kernel⟩
theorem kvX5_frostLine : KwV yX5_frostLine := ⟨bw_of (i := 539) (by decide +kernel) (by decide +kernel), bw_ofS (i := 14) (by decide +kernel) (by decide +kernel)⟩
theorem kwX5_inviteLine : Kw yX5_inviteLine cX5_inviteLine 5 none 2 := ⟨bw_of (i := 545) (by decide +kernel) (by decide +kernel), wI_X5, by decide +kernel⟩
theorem kvX5_inviteLine : KwV yX5_inviteLine := ⟨bw_of (i := 544) (by decide +kernel) (by decide +kernel), bw_ofS (i := 15) (by decide +kernel) (by decide +kernel)⟩
theorem kwX5_sign : Kw yX5_sign cX5_sign 1 none 0 := ⟨bw_of (i := 549) (by decide +kernel) (by decide +kernel), wI_X5, by decide +kernel⟩
theorem kvX5_sign : KwV yX5_sign := ⟨bw_of (i := 548) (by decide +kernel) (by decide +kernel), bw_ofS (i := 16) (by decide +kernel) (by decide +kernel)⟩
theorem kwX9_settle : Kw yX9_settle cX9_settle 1 none 0 := ⟨bw_of (i := 553) (by decide +kernel) (by decide +kernel), wI_X9, by decide +kernel⟩
theorem kvX9_settle : KwV yX9_settle := ⟨bw_of (i := 552) (by decide +kernel) (by decide +kernel), bw_ofS (i := 17) (by decide +kernel) (by decide +kernel)⟩
theorem kwX1_take : Kw yX1_take cX1_take 3 none 1 := ⟨bw_of (i := 557) (by decide +kernel) (by decide +kernel), wI_X1, by decide +kernel⟩
theorem kvX1_take : KwV yX1_take := ⟨bw_of (i := 556) (by decide +kernel) (by decide +kernel), bw_ofS (i := 18) (by decide +kernel) (by decide +kernel)⟩
theorem kwX6_openedByTold : Kw yX6_openedByTold cX6_openedByTold 4 (some .int) 1 := ⟨bw_of (i := 561) (by decide +kernel) (by decide +kernel), wI_X6, by decide +kernel⟩
theorem kvX6_openedByTold : KwV yX6_openedByTold := ⟨bw_of (i := 560) (by decide +kernel) (by decide +kernel), bw_ofS (i := 19) (by decide +kernel) (by decide +kernel)⟩
theorem kwX6_opened : Kw yX6_opened cX6_opened 3 (some .int) 2 := ⟨bw_of (i := 565) (by decide +kernel) (by decide +kernel), wI_X6, by decide +kernel⟩
theorem kvX6_opened : KwV yX6_opened := ⟨bw_of (i := 564) (by decide +kernel) (by decide +kernel), bw_ofS (i := 20) (by decide +kernel) (by decide +kernel)⟩
theorem kwX6_hasRank : Kw yX6_hasRank cX6_hasRank 2 (some .boolean) 1 := ⟨bw_of (i := 569) (by decide +kernel) (by decide +kernel), wI_X6, by decide +kernel⟩
theorem kvX6_hasRank : KwV yX6_hasRank := ⟨bw_of (i := 568) (by decide +kernel) (by decide +kernel), bw_ofS (i := 21) (by decide +kernel) (by decide +kernel)⟩
theorem kwX6_openedByActs : Kw yX6_openedByActs cX6_openedByActs 3 (some .int) 0 := ⟨bw_of (i := 573) (by decide +kernel) (by decide +kernel), wI_X6, by decide +kernel⟩
theorem kvX6_openedByActs : KwV yX6_openedByActs := ⟨bw_of (i := 572) (by decide +kernel) (by decide +kernel), bw_ofS (i := 22) (by decide +kernel) (by decide +kernel)⟩
theorem kwX1_runAll : Kw yX1_runAll cX1_runAll 2 none 0 := ⟨bw_of (i := 581) (by decide +kernel) (by decide +kernel), wI_X1, by decide +kernel⟩
theorem kvX1_runAll : KwV yX1_runAll := ⟨bw_of (i := 580) (by decide +kernel) (by decide +kernel), bw_ofS (i := 23) (by decide +kernel) (by decide +kernel)⟩
theorem kwX1_run : Kw yX1_run cX1_run 3 none 1 := ⟨bw_of (i := 585) (by decide +kernel) (by decide +kernel), wI_X1, by decide +kernel⟩
theorem kvX1_run : KwV yX1_run := ⟨bw_of (i := 584) (by decide +kernel) (by decide +kernel), bw_ofS (i := 24) (by decide +kernel) (by decide +kernel)⟩
theorem kwX1_rainAndDrain : Kw yX1_rainAndDrain cX1_rainAndDrain 8 none 1 := ⟨bw_of (i := 589) (by decide +kernel) (by decide +kernel), wI_X1, by decide +kernel⟩
theorem kvX1_rainAndDrain : KwV yX1_rainAndDrain := ⟨bw_of (i := 588) (by decide +kernel) (by decide +kernel), bw_ofS (i := 25) (by decide +kernel) (by decide +kernel)⟩
theorem kwX1_isFrost : Kw yX1_isFrost cX1_isFrost 2 (some .boolean) 1 := ⟨bw_of (i := 593) (by decide +kernel) (by decide +kernel), wI_X1, by decide +kernel⟩
theorem kvX1_isFrost : KwV yX1_isFrost := ⟨bw_of (i := 592) (by decide +kernel) (by decide +kernel), bw_ofS (i := 26) (by decide +kernel) (by decide +kernel)⟩
theorem kwX9_cell : Kw yX9_cell cX9_cell 2 (some .int) 2 := ⟨bw_of (i := 596) (by decide +kernel) (by decide +kernel), wI_X9, by decide +kernel⟩
theorem ksX9_cell : KwS yX9_cell := bw_of (i := 595) (by decide +kernel) (by decide +kernel)
theorem kwX1_runOver : Kw yX1_runOver cX1_runOver 10 none 1 := ⟨bw_of (i := 601) (by decide +kernel) (by decide +kernel), wI_X1, by decide +kernel⟩
theorem kvX1_runOver : KwV yX1_runOver := ⟨bw_of (i := 600) (by decide +kernel) (by decide +kernel), bw_ofS (i := 27) (by decide +kernel) (by decide +kernel)⟩
theorem kwJ9_max_7cf53 : Kw yJ9_max_7cf53 cJ9_max_7cf53 2 (some .int) 2 := ⟨bw_of (i := 604) (by decide +kernel) (by decide +kernel), wI_J9, by decide +kernel⟩
theorem ksJ9_max_7cf53 : KwS yJ9_max_7cf53 := bw_of (i := 603) (by decide +kernel) (by decide +kernel)
theorem kwX1_emptyDredged : Kw yX1_emptyDredged cX1_emptyDredged 3 none 1 := ⟨bw_of (i := 608) (by decide +kernel) (by decide +kernel), wI_X1, by decide +kernel⟩
theorem kvX1_emptyDredged : KwV yX1_emptyDredged := ⟨bw_of (i := 607) (by decide +kernel) (by decide +kernel), bw_ofS (i := 28) (by decide +kernel) (by decide +kernel)⟩
theorem kwX1_deepWaterFor : Kw yX1_deepWaterFor cX1_deepWaterFor 6 (some .int) 1 := ⟨bw_of (i := 612) (by decide +kernel) (by decide +kernel), wI_X1, by decide +kernel⟩
theorem kvX1_deepWaterFor : KwV yX1_deepWaterFor := ⟨bw_of (i := 611) (by decide +kernel) (by decide +kernel), bw_ofS (i := 29) (by decide +kernel) (by decide +kernel)⟩
theorem kwX6_hasYear : Kw yX6_hasYear cX6_hasYear 2 (some .boolean) 1 := ⟨bw_of (i := 616) (by decide +kernel) (by decide +kernel), wI_X6, by decide +kernel⟩
theorem kvX6_hasYear : KwV yX6_hasYear := ⟨bw_of (i := 615) (by decide +kernel) (by decide +kernel), bw_ofS (i := 30) (by decide +kernel) (by decide +kernel)⟩
theorem kwX1_swimsOver : Kw yX1_swimsOver cX1_swimsOver 4 (some .boolean) 3 := ⟨bw_of (i := 620) (by decide +kernel) (by decide +kernel), wI_X1, by decide +kernel⟩
theorem kvX1_swimsOver : KwV yX1_swimsOver := ⟨bw_of (i := 619) (by decide +kernel) (by decide +kernel), bw_ofS (i := 31) (by decide +kernel) (by decide +kernel)⟩
theorem kwX9_fault : Kw yX9_fault cX9_fault 2 (some .int) 1 := ⟨bw_of (i := 624) (by decide +kernel) (by decide +kernel), wI_X9, by decide +kernel⟩
theorem kvX9_fault : KwV yX9_fault := ⟨bw_of (i := 622) (by decide +kernel) (by decide +kernel), bw_of (i := 623) (by decide +kernel) (by decide +kernel)⟩
theorem kwX9_rank : Kw yX9_rank cX9_rank 3 (some .int) 2 := ⟨bw_of (i := 628) (by decide +kernel) (by decide +kernel), wI_X9, by decide +kernel⟩
theorem kvX9_rank : KwV yX9_rank := ⟨bw_of (i := 626) (by decide +kernel) (by decide +kernel), bw_of (i := 627) (by decide +kernel) (by decide +kernel)⟩
theorem kwX9_plank : Kw yX9_plank cX9_plank 3 (some .int) 2 := ⟨bw_of (i := 633) (by decide +kernel) (by decide +kernel), wI_X9, by decide +kernel⟩
theorem kvX9_plank : KwV yX9_plank := ⟨bw_of (i := 631) (by decide +kernel) (by decide +kernel), bw_of (i := 632) (by decide +kernel) (by decide +kernel)⟩
theorem kwX6_hasPlank : Kw yX6_hasPlank cX6_hasPlank 2 (some .boolean) 1 := ⟨bw_of (i := 637) (by decide +kernel) (by decide +kernel), wI_X6, by decide +kernel⟩
theorem kvX6_hasPlank : KwV yX6_hasPlank := ⟨bw_of (i := 636) (by decide +kernel) (by decide +kernel), bw_ofS (i := 32) (by decide +kernel) (by decide +kernel)⟩
theorem kwX9_invite : Kw yX9_invite cX9_invite 4 (some .int) 2 := ⟨bw_of (i := 641) (by decide +kernel) (by decide +kernel), wI_X9, by decide +kernel⟩
theorem kvX9_invite : KwV yX9_invite := ⟨bw_of (i := 639) (by decide +kernel) (by decide +kernel), bw_of (i := 640) (by decide +kernel) (by decide +kernel)⟩
theorem kwX3_has : Kw yX3_has cX3_has 2 (some .boolean) 1 := ⟨bw_of (i := 645) (by decide +kernel) (by decide +kernel), wI_X3, by decide +kernel⟩
theorem kvX3_has : KwV yX3_has := ⟨bw_of (i := 644) (by decide +kernel) (by decide +kernel), bw_ofS (i := 33) (by decide +kernel) (by decide +kernel)⟩
theorem kwX9_rain : Kw yX9_rain cX9_rain 2 (some .int) 1 := ⟨bw_of (i := 649) (by decide +kernel) (by decide +kernel), wI_X9, by decide +kernel⟩
theorem kvX9_rain : KwV yX9_rain := ⟨bw_of (i := 647) (by decide +kernel) (by decide +kernel), bw_of (i := 648) (by decide +kernel) (by decide +kernel)⟩
theorem kwX9_frosts : Kw yX9_frosts cX9_frosts 1 (some .int) 0 := ⟨bw_of (i := 654) (by decide +kernel) (by decide +kernel), wI_X9, by decide +kernel⟩
theorem kvX9_frosts : KwV yX9_frosts := ⟨bw_of (i := 652) (by decide +kernel) (by decide +kernel), bw_of (i := 653) (by decide +kernel) (by decide +kernel)⟩
theorem kwX6_isTold : Kw yX6_isTold cX6_isTold 1 (some .boolean) 0 := ⟨bw_of (i := 658) (by decide +kernel) (by decide +kernel), wI_X6, by decide +kernel⟩
theorem kvX6_isTold : KwV yX6_isTold := ⟨bw_of (i := 657) (by decide +kernel) (by decide +kernel), bw_ofS (i := 34) (by decide +kernel) (by decide +kernel)⟩
theorem kwX9_water : Kw yX9_water cX9_water 3 (some .int) 2 := ⟨bw_of (i := 662) (by decide +kernel) (by decide +kernel), wI_X9, by decide +kernel⟩
theorem kvX9_water : KwV yX9_water := ⟨bw_of (i := 660) (by decide +kernel) (by decide +kernel), bw_of (i := 661) (by decide +kernel) (by decide +kernel)⟩
theorem kwX6_hasBoth : Kw yX6_hasBoth cX6_hasBoth 3 (some .boolean) 2 := ⟨bw_of (i := 666) (by decide +kernel) (by decide +kernel), wI_X6, by decide +kernel⟩
theorem kvX6_hasBoth : KwV yX6_hasBoth := ⟨bw_of (i := 665) (by decide +kernel) (by decide +kernel), bw_ofS (i := 35) (by decide +kernel) (by decide +kernel)⟩
theorem kwX9_spills : Kw yX9_spills cX9_spills 3 (some .int) 2 := ⟨bw_of (i := 672) (by decide +kernel) (by decide +kernel), wI_X9, by decide +kernel⟩
theorem kvX9_spills : KwV yX9_spills := ⟨bw_of (i := 670) (by decide +kernel) (by decide +kernel), bw_of (i := 671) (by decide +kernel) (by decide +kernel)⟩
theorem kwX9_lost : Kw yX9_lost cX9_lost 2 (some .int) 1 := ⟨bw_of (i := 676) (by decide +kernel) (by decide +kernel), wI_X9, by decide +kernel⟩
theorem kvX9_lost : KwV yX9_lost := ⟨bw_of (i := 674) (by decide +kernel) (by decide +kernel), bw_of (i := 675) (by decide +kernel) (by decide +kernel)⟩
theorem kwX9_drained : Kw yX9_drained cX9_drained 3 (some .int) 2 := ⟨bw_of (i := 680) (by decide +kernel) (by decide +kernel), wI_X9, by decide +kernel⟩
theorem kvX9_drained : KwV yX9_drained := ⟨bw_of (i := 678) (by decide +kernel) (by decide +kernel), bw_of (i := 679) (by decide +kernel) (by decide +kernel)⟩
theorem kwX9_all : Kw yX9_all cX9_all 4 (some .int) 1 := ⟨bw_of (i := 684) (by decide +kernel) (by decide +kernel), wI_X9, by decide +kernel⟩
theorem kvX9_all : KwV yX9_all := ⟨bw_of (i := 682) (by decide +kernel) (by decide +kernel), bw_of (i := 683) (by decide +kernel) (by decide +kernel)⟩
theorem kwX9_dry : Kw yX9_dry cX9_dry 4 (some .int) 1 := ⟨bw_of (i := 688) (by decide +kernel) (by decide +kernel), wI_X9, by decide +kernel⟩
theorem kvX9_dry : KwV yX9_dry := ⟨bw_of (i := 686) (by decide +kernel) (by decide +kernel), bw_of (i := 687) (by decide +kernel) (by decide +kernel)⟩
theorem kwX9_deepest : Kw yX9_deepest cX9_deepest 6 (some .int) 1 := ⟨bw_of (i := 692) (by decide +kernel) (by decide +kernel), wI_X9, by decide +kernel⟩
theorem kvX9_deepest : KwV yX9_deepest := ⟨bw_of (i := 690) (by decide +kernel) (by decide +kernel), bw_of (i := 691) (by decide +kernel) (by decide +kernel)⟩
theorem kwX9_most : Kw yX9_most cX9_most 4 (some .int) 1 := ⟨bw_of (i := 696) (by decide +kernel) (by decide +kernel), wI_X9, by decide +kernel⟩
theorem kvX9_most : KwV yX9_most := ⟨bw_of (i := 694) (by decide +kernel) (by decide +kernel), bw_of (i := 695) (by decide +kernel) (by decide +kernel)⟩
theorem kwX9_dries : Kw yX9_dries cX9_dries 3 (some .int) 1 := ⟨bw_of (i := 701) (by decide +kernel) (by decide +kernel), wI_X9, by decide +kernel⟩
theorem kvX9_dries : KwV yX9_dries := ⟨bw_of (i := 699) (by decide +kernel) (by decide +kernel), bw_of (i := 700) (by decide +kernel) (by decide +kernel)⟩
theorem kwX9_wet : Kw yX9_wet cX9_wet 4 (some .int) 1 := ⟨bw_of (i := 705) (by decide +kernel) (by decide +kernel), wI_X9, by decide +kernel⟩
theorem kvX9_wet : KwV yX9_wet := ⟨bw_of (i := 703) (by decide +kernel) (by decide +kernel), bw_of (i := 704) (by decide +kernel) (by decide +kernel)⟩
theorem kwX9_flood : Kw yX9_flood cX9_flood 4 (some .int) 0 := ⟨bw_of (i := 709) (by decide +kernel) (by decide +kernel), wI_X9, by decide +kernel⟩
theorem kvX9_flood : KwV yX9_flood := ⟨bw_of (i := 707) (by decide +kernel) (by decide +kernel), bw_of (i := 708) (by decide +kernel) (by decide +kernel)⟩
theorem kwX9_rains : Kw yX9_rains cX9_rains 3 (some .int) 0 := ⟨bw_of (i := 713) (by decide +kernel) (by decide +kernel), wI_X9, by decide +kernel⟩
theorem kvX9_rains : KwV yX9_rains := ⟨bw_of (i := 711) (by decide +kernel) (by decide +kernel), bw_of (i := 712) (by decide +kernel) (by decide +kernel)⟩
theorem kwX9_lone : Kw yX9_lone cX9_lone 4 (some .int) 0 := ⟨bw_of (i := 717) (by decide +kernel) (by decide +kernel), wI_X9, by decide +kernel⟩
theorem kvX9_lone : KwV yX9_lone := ⟨bw_of (i := 715) (by decide +kernel) (by decide +kernel), bw_of (i := 716) (by decide +kernel) (by decide +kernel)⟩
theorem kwX1_visitedBy : Kw yX1_visitedBy cX1_visitedBy 5 (some .int) 2 := ⟨bw_of (i := 721) (by decide +kernel) (by decide +kernel), wI_X1, by decide +kernel⟩
theorem kvX1_visitedBy : KwV yX1_visitedBy := ⟨bw_of (i := 720) (by decide +kernel) (by decide +kernel), bw_ofS (i := 36) (by decide +kernel) (by decide +kernel)⟩
theorem kwX1_visits : Kw yX1_visits cX1_visits 4 (some .boolean) 3 := ⟨bw_of (i := 725) (by decide +kernel) (by decide +kernel), wI_X1, by decide +kernel⟩
theorem kvX1_visits : KwV yX1_visits := ⟨bw_of (i := 724) (by decide +kernel) (by decide +kernel), bw_ofS (i := 37) (by decide +kernel) (by decide +kernel)⟩
theorem kwX1_crosses : Kw yX1_crosses cX1_crosses 4 (some .boolean) 3 := ⟨bw_of (i := 729) (by decide +kernel) (by decide +kernel), wI_X1, by decide +kernel⟩
theorem kvX1_crosses : KwV yX1_crosses := ⟨bw_of (i := 728) (by decide +kernel) (by decide +kernel), bw_ofS (i := 38) (by decide +kernel) (by decide +kernel)⟩
theorem kwX6_everyRank : Kw yX6_everyRank cX6_everyRank 1 (some .int) 0 := ⟨bw_of (i := 733) (by decide +kernel) (by decide +kernel), wI_X6, by decide +kernel⟩
theorem kvX6_everyRank : KwV yX6_everyRank := ⟨bw_of (i := 732) (by decide +kernel) (by decide +kernel), bw_ofS (i := 39) (by decide +kernel) (by decide +kernel)⟩
theorem kwX9_over : Kw yX9_over cX9_over 4 (some .int) 3 := ⟨bw_of (i := 737) (by decide +kernel) (by decide +kernel), wI_X9, by decide +kernel⟩
theorem kvX9_over : KwV yX9_over := ⟨bw_of (i := 735) (by decide +kernel) (by decide +kernel), bw_of (i := 736) (by decide +kernel) (by decide +kernel)⟩
theorem kwX9_comes : Kw yX9_comes cX9_comes 3 (some .int) 2 := ⟨bw_of (i := 742) (by decide +kernel) (by decide +kernel), wI_X9, by decide +kernel⟩
theorem kvX9_comes : KwV yX9_comes := ⟨bw_of (i := 740) (by decide +kernel) (by decide +kernel), bw_of (i := 741) (by decide +kernel) (by decide +kernel)⟩
theorem kwX9_guests : Kw yX9_guests cX9_guests 5 (some .int) 2 := ⟨bw_of (i := 746) (by decide +kernel) (by decide +kernel), wI_X9, by decide +kernel⟩
theorem kvX9_guests : KwV yX9_guests := ⟨bw_of (i := 744) (by decide +kernel) (by decide +kernel), bw_of (i := 745) (by decide +kernel) (by decide +kernel)⟩
theorem kwX9_first : Kw yX9_first cX9_first 4 (some .int) 2 := ⟨bw_of (i := 751) (by decide +kernel) (by decide +kernel), wI_X9, by decide +kernel⟩
theorem kvX9_first : KwV yX9_first := ⟨bw_of (i := 749) (by decide +kernel) (by decide +kernel), bw_of (i := 750) (by decide +kernel) (by decide +kernel)⟩
theorem kwX6_hasTwo : Kw yX6_hasTwo cX6_hasTwo 3 (some .boolean) 2 := ⟨bw_of (i := 755) (by decide +kernel) (by decide +kernel), wI_X6, by decide +kernel⟩
theorem kvX6_hasTwo : KwV yX6_hasTwo := ⟨bw_of (i := 754) (by decide +kernel) (by decide +kernel), bw_ofS (i := 40) (by decide +kernel) (by decide +kernel)⟩
theorem kwX9_often : Kw yX9_often cX9_often 5 (some .int) 2 := ⟨bw_of (i := 759) (by decide +kernel) (by decide +kernel), wI_X9, by decide +kernel⟩
theorem kvX9_often : KwV yX9_often := ⟨bw_of (i := 757) (by decide +kernel) (by decide +kernel), bw_of (i := 758) (by decide +kernel) (by decide +kernel)⟩
theorem kwX9_news : Kw yX9_news cX9_news 6 (some .int) 3 := ⟨bw_of (i := 763) (by decide +kernel) (by decide +kernel), wI_X9, by decide +kernel⟩
theorem kvX9_news : KwV yX9_news := ⟨bw_of (i := 761) (by decide +kernel) (by decide +kernel), bw_of (i := 762) (by decide +kernel) (by decide +kernel)⟩
theorem kwX1_spread : Kw yX1_spread cX1_spread 5 (some .int) 2 := ⟨bw_of (i := 767) (by decide +kernel) (by decide +kernel), wI_X1, by decide +kernel⟩
theorem kvX1_spread : KwV yX1_spread := ⟨bw_of (i := 766) (by decide +kernel) (by decide +kernel), bw_ofS (i := 41) (by decide +kernel) (by decide +kernel)⟩
theorem kwX9_friends : Kw yX9_friends cX9_friends 2 (some .int) 1 := ⟨bw_of (i := 772) (by decide +kernel) (by decide +kernel), wI_X9, by decide +kernel⟩
theorem kvX9_friends : KwV yX9_friends := ⟨bw_of (i := 770) (by decide +kernel) (by decide +kernel), bw_of (i := 771) (by decide +kernel) (by decide +kernel)⟩
theorem kwX1_pairs : Kw yX1_pairs cX1_pairs 5 (some .int) 1 := ⟨bw_of (i := 776) (by decide +kernel) (by decide +kernel), wI_X1, by decide +kernel⟩
theorem kvX1_pairs : KwV yX1_pairs := ⟨bw_of (i := 775) (by decide +kernel) (by decide +kernel), bw_ofS (i := 42) (by decide +kernel) (by decide +kernel)⟩
theorem kwX9_fair : Kw yX9_fair cX9_fair 5 (some .int) 0 := ⟨bw_of (i := 780) (by decide +kernel) (by decide +kernel), wI_X9, by decide +kernel⟩
theorem kvX9_fair : KwV yX9_fair := ⟨bw_of (i := 778) (by decide +kernel) (by decide +kernel), bw_of (i := 779) (by decide +kernel) (by decide +kernel)⟩
theorem kwX9_fords : Kw yX9_fords cX9_fords 5 (some .int) 2 := ⟨bw_of (i := 784) (by decide +kernel) (by decide +kernel), wI_X9, by decide +kernel⟩
theorem kvX9_fords : KwV yX9_fords := ⟨bw_of (i := 782) (by decide +kernel) (by decide +kernel), bw_of (i := 783) (by decide +kernel) (by decide +kernel)⟩
theorem kwX9_shut : Kw yX9_shut cX9_shut 4 (some .int) 1 := ⟨bw_of (i := 788) (by decide +kernel) (by decide +kernel), wI_X9, by decide +kernel⟩
theorem kvX9_shut : KwV yX9_shut := ⟨bw_of (i := 786) (by decide +kernel) (by decide +kernel), bw_of (i := 787) (by decide +kernel) (by decide +kernel)⟩
theorem kwX9_widest : Kw yX9_widest cX9_widest 4 (some .int) 1 := ⟨bw_of (i := 792) (by decide +kernel) (by decide +kernel), wI_X9, by decide +kernel⟩
theorem kvX9_widest : KwV yX9_widest := ⟨bw_of (i := 790) (by decide +kernel) (by decide +kernel), bw_of (i := 791) (by decide +kernel) (by decide +kernel)⟩
theorem kwX1_farthest : Kw yX1_farthest cX1_farthest 7 (some .int) 2 := ⟨bw_of (i := 796) (by decide +kernel) (by decide +kernel), wI_X1, by decide +kernel⟩
theorem kvX1_farthest : KwV yX1_farthest := ⟨bw_of (i := 795) (by decide +kernel) (by decide +kernel), bw_ofS (i := 43) (by decide +kernel) (by decide +kernel)⟩
theorem kwX9_kept : Kw yX9_kept cX9_kept 2 (some .int) 1 := ⟨bw_of (i := 801) (by decide +kernel) (by decide +kernel), wI_X9, by decide +kernel⟩
theorem kvX9_kept : KwV yX9_kept := ⟨bw_of (i := 799) (by decide +kernel) (by decide +kernel), bw_of (i := 800) (by decide +kernel) (by decide +kernel)⟩
theorem kwX1_isKept : Kw yX1_isKept cX1_isKept 3 (some .boolean) 2 := ⟨bw_of (i := 805) (by decide +kernel) (by decide +kernel), wI_X1, by decide +kernel⟩
theorem kvX1_isKept : KwV yX1_isKept := ⟨bw_of (i := 804) (by decide +kernel) (by decide +kernel), bw_ofS (i := 44) (by decide +kernel) (by decide +kernel)⟩
theorem kwX9_keeps : Kw yX9_keeps cX9_keeps 1 (some .int) 0 := ⟨bw_of (i := 809) (by decide +kernel) (by decide +kernel), wI_X9, by decide +kernel⟩
theorem kvX9_keeps : KwV yX9_keeps := ⟨bw_of (i := 807) (by decide +kernel) (by decide +kernel), bw_of (i := 808) (by decide +kernel) (by decide +kernel)⟩
theorem kwX1_keptBits : Kw yX1_keptBits cX1_keptBits 4 (some .int) 1 := ⟨bw_of (i := 813) (by decide +kernel) (by decide +kernel), wI_X1, by decide +kernel⟩
theorem kvX1_keptBits : KwV yX1_keptBits := ⟨bw_of (i := 812) (by decide +kernel) (by decide +kernel), bw_ofS (i := 45) (by decide +kernel) (by decide +kernel)⟩
theorem kwX9_hinders : Kw yX9_hinders cX9_hinders 2 (some .int) 1 := ⟨bw_of (i := 818) (by decide +kernel) (by decide +kernel), wI_X9, by decide +kernel⟩
theorem kvX9_hinders : KwV yX9_hinders := ⟨bw_of (i := 816) (by decide +kernel) (by decide +kernel), bw_of (i := 817) (by decide +kernel) (by decide +kernel)⟩
theorem kwX1_hindrance : Kw yX1_hindrance cX1_hindrance 2 (some .int) 1 := ⟨bw_of (i := 822) (by decide +kernel) (by decide +kernel), wI_X1, by decide +kernel⟩
theorem kvX1_hindrance : KwV yX1_hindrance := ⟨bw_of (i := 821) (by decide +kernel) (by decide +kernel), bw_ofS (i := 46) (by decide +kernel) (by decide +kernel)⟩
theorem kwX9_hosts : Kw yX9_hosts cX9_hosts 2 (some .int) 1 := ⟨bw_of (i := 826) (by decide +kernel) (by decide +kernel), wI_X9, by decide +kernel⟩
theorem kvX9_hosts : KwV yX9_hosts := ⟨bw_of (i := 824) (by decide +kernel) (by decide +kernel), bw_of (i := 825) (by decide +kernel) (by decide +kernel)⟩
theorem kwX3_toWhom : Kw yX3_toWhom cX3_toWhom 4 (some .int) 1 := ⟨bw_of (i := 830) (by decide +kernel) (by decide +kernel), wI_X3, by decide +kernel⟩
theorem kvX3_toWhom : KwV yX3_toWhom := ⟨bw_of (i := 829) (by decide +kernel) (by decide +kernel), bw_ofS (i := 47) (by decide +kernel) (by decide +kernel)⟩
theorem kwJ6_bitCount_0f7a4 : Kw yJ6_bitCount_0f7a4 cJ6_bitCount_0f7a4 1 (some .int) 1 := ⟨bw_of (i := 833) (by decide +kernel) (by decide +kernel), wI_J6, by decide +kernel⟩
theorem ksJ6_bitCount_0f7a4 : KwS yJ6_bitCount_0f7a4 := bw_of (i := 832) (by decide +kernel) (by decide +kernel)
theorem kwX9_goes : Kw yX9_goes cX9_goes 2 (some .int) 1 := ⟨bw_of (i := 840) (by decide +kernel) (by decide +kernel), wI_X9, by decide +kernel⟩
theorem kvX9_goes : KwV yX9_goes := ⟨bw_of (i := 838) (by decide +kernel) (by decide +kernel), bw_of (i := 839) (by decide +kernel) (by decide +kernel)⟩
theorem kwX3_ofWhom : Kw yX3_ofWhom cX3_ofWhom 4 (some .int) 1 := ⟨bw_of (i := 844) (by decide +kernel) (by decide +kernel), wI_X3, by decide +kernel⟩
theorem kvX3_ofWhom : KwV yX3_ofWhom := ⟨bw_of (i := 843) (by decide +kernel) (by decide +kernel), bw_ofS (i := 48) (by decide +kernel) (by decide +kernel)⟩
theorem kwX9_host : Kw yX9_host cX9_host 6 (some .int) 0 := ⟨bw_of (i := 848) (by decide +kernel) (by decide +kernel), wI_X9, by decide +kernel⟩
theorem kvX9_host : KwV yX9_host := ⟨bw_of (i := 846) (by decide +kernel) (by decide +kernel), bw_of (i := 847) (by decide +kernel) (by decide +kernel)⟩
theorem kwX9_idle : Kw yX9_idle cX9_idle 5 (some .int) 0 := ⟨bw_of (i := 852) (by decide +kernel) (by decide +kernel), wI_X9, by decide +kernel⟩
theorem kvX9_idle : KwV yX9_idle := ⟨bw_of (i := 850) (by decide +kernel) (by decide +kernel), bw_of (i := 851) (by decide +kernel) (by decide +kernel)⟩
theorem kwX1_keptSum : Kw yX1_keptSum cX1_keptSum 2 (some .int) 1 := ⟨bw_of (i := 856) (by decide +kernel) (by decide +kernel), wI_X1, by decide +kernel⟩
theorem kvX1_keptSum : KwV yX1_keptSum := ⟨bw_of (i := 855) (by decide +kernel) (by decide +kernel), bw_ofS (i := 49) (by decide +kernel) (by decide +kernel)⟩
theorem kwX9_best : Kw yX9_best cX9_best 1 (some .int) 0 := ⟨bw_of (i := 864) (by decide +kernel) (by decide +kernel), wI_X9, by decide +kernel⟩
theorem kvX9_best : KwV yX9_best := ⟨bw_of (i := 862) (by decide +kernel) (by decide +kernel), bw_of (i := 863) (by decide +kernel) (by decide +kernel)⟩
theorem kwX4_plan : Kw yX4_plan cX4_plan 6 none 2 := ⟨bw_of (i := 868) (by decide +kernel) (by decide +kernel), wI_X4, by decide +kernel⟩
theorem kvX4_plan : KwV yX4_plan := ⟨bw_of (i := 867) (by decide +kernel) (by decide +kernel), bw_ofS (i := 50) (by decide +kernel) (by decide +kernel)⟩
theorem kwX4_choose : Kw yX4_choose cX4_choose 8 none 3 := ⟨bw_of (i := 874) (by decide +kernel) (by decide +kernel), wI_X4, by decide +kernel⟩
theorem kvX4_choose : KwV yX4_choose := ⟨bw_of (i := 873) (by decide +kernel) (by decide +kernel), bw_ofS (i := 51) (by decide +kernel) (by decide +kernel)⟩
theorem kwX4_behind : Kw yX4_behind cX4_behind 5 (some .int) 4 := ⟨bw_of (i := 878) (by decide +kernel) (by decide +kernel), wI_X4, by decide +kernel⟩
theorem kvX4_behind : KwV yX4_behind := ⟨bw_of (i := 877) (by decide +kernel) (by decide +kernel), bw_ofS (i := 52) (by decide +kernel) (by decide +kernel)⟩
theorem kwX4_mostKept : Kw yX4_mostKept cX4_mostKept 1 (some .int) 0 := ⟨bw_of (i := 883) (by decide +kernel) (by decide +kernel), wI_X4, by decide +kernel⟩
theorem kvX4_mostKept : KwV yX4_mostKept := ⟨bw_of (i := 882) (by decide +kernel) (by decide +kernel), bw_ofS (i := 53) (by decide +kernel) (by decide +kernel)⟩
theorem kwX9_lay : Kw yX9_lay cX9_lay 2 (some .int) 1 := ⟨bw_of (i := 887) (by decide +kernel) (by decide +kernel), wI_X9, by decide +kernel⟩
theorem kvX9_lay : KwV yX9_lay := ⟨bw_of (i := 885) (by decide +kernel) (by decide +kernel), bw_of (i := 886) (by decide +kernel) (by decide +kernel)⟩
theorem kwX4_place : Kw yX4_place cX4_place 6 (some .int) 2 := ⟨bw_of (i := 891) (by decide +kernel) (by decide +kernel), wI_X4, by decide +kernel⟩
theorem kvX4_place : KwV yX4_place := ⟨bw_of (i := 890) (by decide +kernel) (by decide +kernel), bw_ofS (i := 54) (by decide +kernel) (by decide +kernel)⟩
theorem kwX4_firstOfBest : Kw yX4_firstOfBest cX4_firstOfBest 5 (some .int) 3 := ⟨bw_of (i := 895) (by decide +kernel) (by decide +kernel), wI_X4, by decide +kernel⟩
theorem kvX4_firstOfBest : KwV yX4_firstOfBest := ⟨bw_of (i := 894) (by decide +kernel) (by decide +kernel), bw_ofS (i := 55) (by decide +kernel) (by decide +kernel)⟩
theorem kwX9_ways : Kw yX9_ways cX9_ways 1 (some .int) 0 := ⟨bw_of (i := 899) (by decide +kernel) (by decide +kernel), wI_X9, by decide +kernel⟩
theorem kvX9_ways : KwV yX9_ways := ⟨bw_of (i := 897) (by decide +kernel) (by decide +kernel), bw_of (i := 898) (by decide +kernel) (by decide +kernel)⟩
theorem kwX4_rowsOfBest : Kw yX4_rowsOfBest cX4_rowsOfBest 1 (some .int) 0 := ⟨bw_of (i := 903) (by decide +kernel) (by decide +kernel), wI_X4, by decide +kernel⟩
theorem kvX4_rowsOfBest : KwV yX4_rowsOfBest := ⟨bw_of (i := 902) (by decide +kernel) (by decide +kernel), bw_ofS (i := 56) (by decide +kernel) (by decide +kernel)⟩
theorem kwX9_fills : Kw yX9_fills cX9_fills 1 (some .int) 0 := ⟨bw_of (i := 907) (by decide +kernel) (by decide +kernel), wI_X9, by decide +kernel⟩
theorem kvX9_fills : KwV yX9_fills := ⟨bw_of (i := 905) (by decide +kernel) (by decide +kernel), bw_of (i := 906) (by decide +kernel) (by decide +kernel)⟩
theorem kwX1_allHindrance : Kw yX1_allHindrance cX1_allHindrance 3 (some .int) 0 := ⟨bw_of (i := 911) (by decide +kernel) (by decide +kernel), wI_X1, by decide +kernel⟩
theorem kvX1_allHindrance : KwV yX1_allHindrance := ⟨bw_of (i := 910) (by decide +kernel) (by decide +kernel), bw_ofS (i := 57) (by decide +kernel) (by decide +kernel)⟩
theorem kwX9_filled : Kw yX9_filled cX9_filled 1 (some .int) 0 := ⟨bw_of (i := 916) (by decide +kernel) (by decide +kernel), wI_X9, by decide +kernel⟩
theorem kvX9_filled : KwV yX9_filled := ⟨bw_of (i := 914) (by decide +kernel) (by decide +kernel), bw_of (i := 915) (by decide +kernel) (by decide +kernel)⟩
theorem kwX9_path : Kw yX9_path cX9_path 5 (some .int) 0 := ⟨bw_of (i := 920) (by decide +kernel) (by decide +kernel), wI_X9, by decide +kernel⟩
theorem kvX9_path : KwV yX9_path := ⟨bw_of (i := 918) (by decide +kernel) (by decide +kernel), bw_of (i := 919) (by decide +kernel) (by decide +kernel)⟩
theorem kwX9_drain : Kw yX9_drain cX9_drain 6 (some .int) 1 := ⟨bw_of (i := 924) (by decide +kernel) (by decide +kernel), wI_X9, by decide +kernel⟩
theorem kvX9_drain : KwV yX9_drain := ⟨bw_of (i := 922) (by decide +kernel) (by decide +kernel), bw_of (i := 923) (by decide +kernel) (by decide +kernel)⟩
theorem kwX9_learns : Kw yX9_learns cX9_learns 4 (some .int) 1 := ⟨bw_of (i := 928) (by decide +kernel) (by decide +kernel), wI_X9, by decide +kernel⟩
theorem kvX9_learns : KwV yX9_learns := ⟨bw_of (i := 926) (by decide +kernel) (by decide +kernel), bw_of (i := 927) (by decide +kernel) (by decide +kernel)⟩
theorem kwX1_deepestOnTheWay : Kw yX1_deepestOnTheWay cX1_deepestOnTheWay 3 (some .int) 1 := ⟨bw_of (i := 932) (by decide +kernel) (by decide +kernel), wI_X1, by decide +kernel⟩
theorem kvX1_deepestOnTheWay : KwV yX1_deepestOnTheWay := ⟨bw_of (i := 931) (by decide +kernel) (by decide +kernel), bw_ofS (i := 58) (by decide +kernel) (by decide +kernel)⟩
theorem kwX1_toSwim : Kw yX1_toSwim cX1_toSwim 3 (some .int) 2 := ⟨bw_of (i := 936) (by decide +kernel) (by decide +kernel), wI_X1, by decide +kernel⟩
theorem kvX1_toSwim : KwV yX1_toSwim := ⟨bw_of (i := 935) (by decide +kernel) (by decide +kernel), bw_ofS (i := 59) (by decide +kernel) (by decide +kernel)⟩
theorem kwX9_by : Kw yX9_by cX9_by 2 (some .int) 1 := ⟨bw_of (i := 940) (by decide +kernel) (by decide +kernel), wI_X9, by decide +kernel⟩
theorem kvX9_by : KwV yX9_by := ⟨bw_of (i := 938) (by decide +kernel) (by decide +kernel), bw_of (i := 939) (by decide +kernel) (by decide +kernel)⟩
theorem kwX9_keptByLaw : Kw yX9_keptByLaw cX9_keptByLaw 2 (some .int) 1 := ⟨bw_of (i := 944) (by decide +kernel) (by decide +kernel), wI_X9, by decide +kernel⟩
theorem kvX9_keptByLaw : KwV yX9_keptByLaw := ⟨bw_of (i := 943) (by decide +kernel) (by decide +kernel), bw_ofS (i := 60) (by decide +kernel) (by decide +kernel)⟩
theorem kwX9_law : Kw yX9_law cX9_law 5 (some .int) 0 := ⟨bw_of (i := 948) (by decide +kernel) (by decide +kernel), wI_X9, by decide +kernel⟩
theorem kvX9_law : KwV yX9_law := ⟨bw_of (i := 946) (by decide +kernel) (by decide +kernel), bw_of (i := 947) (by decide +kernel) (by decide +kernel)⟩
theorem kwX9_waters : Kw yX9_waters cX9_waters 4 (some .int) 2 := ⟨bw_of (i := 952) (by decide +kernel) (by decide +kernel), wI_X9, by decide +kernel⟩
theorem kvX9_waters : KwV yX9_waters := ⟨bw_of (i := 950) (by decide +kernel) (by decide +kernel), bw_of (i := 951) (by decide +kernel) (by decide +kernel)⟩
theorem kwX9_guessTold : Kw yX9_guessTold cX9_guessTold 5 (some .int) 2 := ⟨bw_of (i := 956) (by decide +kernel) (by decide +kernel), wI_X9, by decide +kernel⟩
theorem kvX9_guessTold : KwV yX9_guessTold := ⟨bw_of (i := 955) (by decide +kernel) (by decide +kernel), bw_ofS (i := 61) (by decide +kernel) (by decide +kernel)⟩
theorem kwX9_whyNotSeen : Kw yX9_whyNotSeen cX9_whyNotSeen 3 (some .int) 2 := ⟨bw_of (i := 960) (by decide +kernel) (by decide +kernel), wI_X9, by decide +kernel⟩
theorem kvX9_whyNotSeen : KwV yX9_whyNotSeen := ⟨bw_of (i := 959) (by decide +kernel) (by decide +kernel), bw_ofS (i := 62) (by decide +kernel) (by decide +kernel)⟩
theorem kwX9_isSlot : Kw yX9_isSlot cX9_isSlot 1 (some .boolean) 1 := ⟨bw_of (i := 963) (by decide +kernel) (by decide +kernel), wI_X9, by decide +kernel⟩
theorem ksX9_isSlot : KwS yX9_isSlot := bw_of (i := 962) (by decide +kernel) (by decide +kernel)
theorem kwX7_isThere : Kw yX7_isThere cX7_isThere 1 (some .boolean) 0 := ⟨bw_of (i := 967) (by decide +kernel) (by decide +kernel), wI_X7, by decide +kernel⟩
theorem kvX7_isThere : KwV yX7_isThere := ⟨bw_of (i := 966) (by decide +kernel) (by decide +kernel), bw_ofS (i := 63) (by decide +kernel) (by decide +kernel)⟩
theorem kwX7_tellsOf : Kw yX7_tellsOf cX7_tellsOf 4 (some .boolean) 1 := ⟨bw_of (i := 971) (by decide +kernel) (by decide +kernel), wI_X7, by decide +kernel⟩
theorem kvX7_tellsOf : KwV yX7_tellsOf := ⟨bw_of (i := 970) (by decide +kernel) (by decide +kernel), bw_ofS (i := 64) (by decide +kernel) (by decide +kernel)⟩
theorem kwX7_isBelow : Kw yX7_isBelow cX7_isBelow 3 (some .boolean) 2 := ⟨bw_of (i := 974) (by decide +kernel) (by decide +kernel), wI_X7, by decide +kernel⟩
theorem ksX7_isBelow : KwS yX7_isBelow := bw_of (i := 973) (by decide +kernel) (by decide +kernel)
theorem kwX2_clear : Kw yX2_clear cX2_clear 1 none 0 := ⟨bw_of (i := 978) (by decide +kernel) (by decide +kernel), wI_X2, by decide +kernel⟩
theorem kvX2_clear : KwV yX2_clear := ⟨bw_of (i := 977) (by decide +kernel) (by decide +kernel), bw_ofS (i := 65) (by decide +kernel) (by decide +kernel)⟩
theorem kwX7_isSeenIn : Kw yX7_isSeenIn cX7_isSeenIn 4 (some .boolean) 1 := ⟨bw_of (i := 984) (by decide +kernel) (by decide +kernel), wI_X7, by decide +kernel⟩
theorem kvX7_isSeenIn : KwV yX7_isSeenIn := ⟨bw_of (i := 983) (by decide +kernel) (by decide +kernel), bw_ofS (i := 66) (by decide +kernel) (by decide +kernel)⟩
theorem kwX2_add : Kw yX2_add cX2_add 6 none 3 := ⟨bw_of (i := 989) (by decide +kernel) (by decide +kernel), wI_X2, by decide +kernel⟩
theorem kvX2_add : KwV yX2_add := ⟨bw_of (i := 988) (by decide +kernel) (by decide +kernel), bw_ofS (i := 67) (by decide +kernel) (by decide +kernel)⟩
theorem kwX9_least : Kw yX9_least cX9_least 4 (some .int) 2 := ⟨bw_of (i := 994) (by decide +kernel) (by decide +kernel), wI_X9, by decide +kernel⟩
theorem kvX9_least : KwV yX9_least := ⟨bw_of (i := 992) (by decide +kernel) (by decide +kernel), bw_of (i := 993) (by decide +kernel) (by decide +kernel)⟩
theorem kwX9_greatest : Kw yX9_greatest cX9_greatest 4 (some .int) 2 := ⟨bw_of (i := 998) (by decide +kernel) (by decide +kernel), wI_X9, by decide +kernel⟩
theorem kvX9_greatest : KwV yX9_greatest := ⟨bw_of (i := 996) (by decide +kernel) (by decide +kernel), bw_of (i := 997) (by decide +kernel) (by decide +kernel)⟩
theorem kwX9_ask : Kw yX9_ask cX9_ask 4 (some .int) 2 := ⟨bw_of (i := 1002) (by decide +kernel) (by decide +kernel), wI_X9, by decide +kernel⟩
theorem kvX9_ask : KwV yX9_ask := ⟨bw_of (i := 1000) (by decide +kernel) (by decide +kernel), bw_of (i := 1001) (by decide +kernel) (by decide +kernel)⟩
theorem kwX2_yearToAsk : Kw yX2_yearToAsk cX2_yearToAsk 6 (some .int) 1 := ⟨bw_of (i := 1006) (by decide +kernel) (by decide +kernel), wI_X2, by decide +kernel⟩
theorem kvX2_yearToAsk : KwV yX2_yearToAsk := ⟨bw_of (i := 1005) (by decide +kernel) (by decide +kernel), bw_ofS (i := 68) (by decide +kernel) (by decide +kernel)⟩
theorem kwX2_atWorst : Kw yX2_atWorst cX2_atWorst 4 (some .int) 1 := ⟨bw_of (i := 1010) (by decide +kernel) (by decide +kernel), wI_X2, by decide +kernel⟩
theorem kvX2_atWorst : KwV yX2_atWorst := ⟨bw_of (i := 1009) (by decide +kernel) (by decide +kernel), bw_ofS (i := 69) (by decide +kernel) (by decide +kernel)⟩
theorem kwX9_leaves : Kw yX9_leaves cX9_leaves 5 (some .int) 2 := ⟨bw_of (i := 1015) (by decide +kernel) (by decide +kernel), wI_X9, by decide +kernel⟩
theorem kvX9_leaves : KwV yX9_leaves := ⟨bw_of (i := 1013) (by decide +kernel) (by decide +kernel), bw_of (i := 1014) (by decide +kernel) (by decide +kernel)⟩
theorem kwX9_laws : Kw yX9_laws cX9_laws 5 (some .int) 1 := ⟨bw_of (i := 1020) (by decide +kernel) (by decide +kernel), wI_X9, by decide +kernel⟩
theorem kvX9_laws : KwV yX9_laws := ⟨bw_of (i := 1018) (by decide +kernel) (by decide +kernel), bw_of (i := 1019) (by decide +kernel) (by decide +kernel)⟩
theorem kwX9_worth : Kw yX9_worth cX9_worth 2 (some .int) 1 := ⟨bw_of (i := 1024) (by decide +kernel) (by decide +kernel), wI_X9, by decide +kernel⟩
theorem kvX9_worth : KwV yX9_worth := ⟨bw_of (i := 1022) (by decide +kernel) (by decide +kernel), bw_of (i := 1023) (by decide +kernel) (by decide +kernel)⟩
theorem kwX9_share : Kw yX9_share cX9_share 6 (some .int) 2 := ⟨bw_of (i := 1028) (by decide +kernel) (by decide +kernel), wI_X9, by decide +kernel⟩
theorem kvX9_share : KwV yX9_share := ⟨bw_of (i := 1026) (by decide +kernel) (by decide +kernel), bw_of (i := 1027) (by decide +kernel) (by decide +kernel)⟩
theorem kwX9_isEither : Kw yX9_isEither cX9_isEither 1 (some .boolean) 1 := ⟨bw_of (i := 1031) (by decide +kernel) (by decide +kernel), wI_X9, by decide +kernel⟩
theorem ksX9_isEither : KwS yX9_isEither := bw_of (i := 1030) (by decide +kernel) (by decide +kernel)
theorem kwX9_inLowestTerms : Kw yX9_inLowestTerms cX9_inLowestTerms 12 (some .long) 3 := ⟨bw_of (i := 1035) (by decide +kernel) (by decide +kernel), wI_X9, by decide +kernel⟩
theorem ksX9_inLowestTerms : KwS yX9_inLowestTerms := bw_of (i := 1034) (by decide +kernel) (by decide +kernel)
theorem kwX9_rests : Kw yX9_rests cX9_rests 9 (some .int) 2 := ⟨bw_of (i := 1040) (by decide +kernel) (by decide +kernel), wI_X9, by decide +kernel⟩
theorem kvX9_rests : KwV yX9_rests := ⟨bw_of (i := 1038) (by decide +kernel) (by decide +kernel), bw_of (i := 1039) (by decide +kernel) (by decide +kernel)⟩
theorem kwX9_gain : Kw yX9_gain cX9_gain 7 (some .int) 4 := ⟨bw_of (i := 1044) (by decide +kernel) (by decide +kernel), wI_X9, by decide +kernel⟩
theorem kvX9_gain : KwV yX9_gain := ⟨bw_of (i := 1043) (by decide +kernel) (by decide +kernel), bw_ofS (i := 70) (by decide +kernel) (by decide +kernel)⟩
theorem kwX9_gets : Kw yX9_gets cX9_gets 5 (some .int) 4 := ⟨bw_of (i := 1048) (by decide +kernel) (by decide +kernel), wI_X9, by decide +kernel⟩
theorem kvX9_gets : KwV yX9_gets := ⟨bw_of (i := 1046) (by decide +kernel) (by decide +kernel), bw_of (i := 1047) (by decide +kernel) (by decide +kernel)⟩
theorem kwX9_chance : Kw yX9_chance cX9_chance 8 (some .long) 4 := ⟨bw_of (i := 1052) (by decide +kernel) (by decide +kernel), wI_X9, by decide +kernel⟩
theorem kvX9_chance : KwV yX9_chance := ⟨bw_of (i := 1050) (by decide +kernel) (by decide +kernel), bw_of (i := 1051) (by decide +kernel) (by decide +kernel)⟩
theorem kwX9_isChanceYear : Kw yX9_isChanceYear cX9_isChanceYear 2 (some .boolean) 1 := ⟨bw_of (i := 1056) (by decide +kernel) (by decide +kernel), wI_X9, by decide +kernel⟩
theorem kvX9_isChanceYear : KwV yX9_isChanceYear := ⟨bw_of (i := 1055) (by decide +kernel) (by decide +kernel), bw_ofS (i := 71) (by decide +kernel) (by decide +kernel)⟩
theorem kwX9_weight : Kw yX9_weight cX9_weight 6 (some .long) 2 := ⟨bw_of (i := 1060) (by decide +kernel) (by decide +kernel), wI_X9, by decide +kernel⟩
theorem kvX9_weight : KwV yX9_weight := ⟨bw_of (i := 1059) (by decide +kernel) (by decide +kernel), bw_ofS (i := 72) (by decide +kernel) (by decide +kernel)⟩
theorem kwX9_allWeights : Kw yX9_allWeights cX9_allWeights 4 (some .long) 1 := ⟨bw_of (i := 1063) (by decide +kernel) (by decide +kernel), wI_X9, by decide +kernel⟩
theorem ksX9_allWeights : KwS yX9_allWeights := bw_of (i := 1062) (by decide +kernel) (by decide +kernel)
theorem kwX9_mean : Kw yX9_mean cX9_mean 7 (some .long) 3 := ⟨bw_of (i := 1068) (by decide +kernel) (by decide +kernel), wI_X9, by decide +kernel⟩
theorem kvX9_mean : KwV yX9_mean := ⟨bw_of (i := 1066) (by decide +kernel) (by decide +kernel), bw_of (i := 1067) (by decide +kernel) (by decide +kernel)⟩
theorem kwX9_adds : Kw yX9_adds cX9_adds 5 (some .int) 2 := ⟨bw_of (i := 1072) (by decide +kernel) (by decide +kernel), wI_X9, by decide +kernel⟩
theorem kvX9_adds : KwV yX9_adds := ⟨bw_of (i := 1070) (by decide +kernel) (by decide +kernel), bw_of (i := 1071) (by decide +kernel) (by decide +kernel)⟩
theorem kwX0_addPlank : Kw yX0_addPlank cX0_addPlank 3 (some .boolean) 2 := ⟨bw_of (i := 1076) (by decide +kernel) (by decide +kernel), wI_X0, by decide +kernel⟩
theorem kvX0_addPlank : KwV yX0_addPlank := ⟨bw_of (i := 1075) (by decide +kernel) (by decide +kernel), bw_ofS (i := 73) (by decide +kernel) (by decide +kernel)⟩
theorem kwX0_add : Kw yX0_add cX0_add 4 (some .boolean) 3 := ⟨bw_of (i := 1080) (by decide +kernel) (by decide +kernel), wI_X0, by decide +kernel⟩
theorem kvX0_add : KwV yX0_add := ⟨bw_of (i := 1079) (by decide +kernel) (by decide +kernel), bw_ofS (i := 74) (by decide +kernel) (by decide +kernel)⟩
theorem kwX9_dredge : Kw yX9_dredge cX9_dredge 3 (some .int) 2 := ⟨bw_of (i := 1084) (by decide +kernel) (by decide +kernel), wI_X9, by decide +kernel⟩
theorem kvX9_dredge : KwV yX9_dredge := ⟨bw_of (i := 1082) (by decide +kernel) (by decide +kernel), bw_of (i := 1083) (by decide +kernel) (by decide +kernel)⟩
theorem kwX0_addDredging : Kw yX0_addDredging cX0_addDredging 3 (some .boolean) 2 := ⟨bw_of (i := 1088) (by decide +kernel) (by decide +kernel), wI_X0, by decide +kernel⟩
theorem kvX0_addDredging : KwV yX0_addDredging := ⟨bw_of (i := 1087) (by decide +kernel) (by decide +kernel), bw_ofS (i := 75) (by decide +kernel) (by decide +kernel)⟩
theorem kwX9_undo : Kw yX9_undo cX9_undo 1 (some .int) 0 := ⟨bw_of (i := 1092) (by decide +kernel) (by decide +kernel), wI_X9, by decide +kernel⟩
theorem kvX9_undo : KwV yX9_undo := ⟨bw_of (i := 1090) (by decide +kernel) (by decide +kernel), bw_of (i := 1091) (by decide +kernel) (by decide +kernel)⟩
theorem kwX9_anew : Kw yX9_anew cX9_anew 2 (some .int) 0 := ⟨bw_of (i := 1096) (by decide +kernel) (by decide +kernel), wI_X9, by decide +kernel⟩
theorem kvX9_anew : KwV yX9_anew := ⟨bw_of (i := 1094) (by decide +kernel) (by decide +kernel), bw_of (i := 1095) (by decide +kernel) (by decide +kernel)⟩
theorem kwX9_drawn : Kw yX9_drawn cX9_drawn 4 (some .int) 2 := ⟨bw_of (i := 1100) (by decide +kernel) (by decide +kernel), wI_X9, by decide +kernel⟩
theorem kvX9_drawn : KwV yX9_drawn := ⟨bw_of (i := 1098) (by decide +kernel) (by decide +kernel), bw_of (i := 1099) (by decide +kernel) (by decide +kernel)⟩
theorem kwX9_isSeed : Kw yX9_isSeed cX9_isSeed 1 (some .boolean) 1 := ⟨bw_of (i := 1103) (by decide +kernel) (by decide +kernel), wI_X9, by decide +kernel⟩
theorem ksX9_isSeed : KwS yX9_isSeed := bw_of (i := 1102) (by decide +kernel) (by decide +kernel)
theorem kwX9_drawFrosts : Kw yX9_drawFrosts cX9_drawFrosts 6 (some .int) 1 := ⟨bw_of (i := 1108) (by decide +kernel) (by decide +kernel), wI_X9, by decide +kernel⟩
theorem kvX9_drawFrosts : KwV yX9_drawFrosts := ⟨bw_of (i := 1107) (by decide +kernel) (by decide +kernel), bw_ofS (i := 76) (by decide +kernel) (by decide +kernel)⟩
theorem kwX9_keptInFrosts : Kw yX9_keptInFrosts cX9_keptInFrosts 2 (some .int) 1 := ⟨bw_of (i := 1116) (by decide +kernel) (by decide +kernel), wI_X9, by decide +kernel⟩
theorem kvX9_keptInFrosts : KwV yX9_keptInFrosts := ⟨bw_of (i := 1115) (by decide +kernel) (by decide +kernel), bw_ofS (i := 77) (by decide +kernel) (by decide +kernel)⟩
theorem kwX9_luck : Kw yX9_luck cX9_luck 6 (some .int) 3 := ⟨bw_of (i := 1120) (by decide +kernel) (by decide +kernel), wI_X9, by decide +kernel⟩
theorem kvX9_luck : KwV yX9_luck := ⟨bw_of (i := 1118) (by decide +kernel) (by decide +kernel), bw_of (i := 1119) (by decide +kernel) (by decide +kernel)⟩
theorem kwX9_digs : Kw yX9_digs cX9_digs 4 (some .int) 2 := ⟨bw_of (i := 1124) (by decide +kernel) (by decide +kernel), wI_X9, by decide +kernel⟩
theorem kvX9_digs : KwV yX9_digs := ⟨bw_of (i := 1122) (by decide +kernel) (by decide +kernel), bw_of (i := 1123) (by decide +kernel) (by decide +kernel)⟩
theorem kwX9_count : Kw yX9_count cX9_count 2 (some .int) 1 := ⟨bw_of (i := 1128) (by decide +kernel) (by decide +kernel), wI_X9, by decide +kernel⟩
theorem kvX9_count : KwV yX9_count := ⟨bw_of (i := 1126) (by decide +kernel) (by decide +kernel), bw_of (i := 1127) (by decide +kernel) (by decide +kernel)⟩
theorem kwX9_rowsThere : Kw yX9_rowsThere cX9_rowsThere 3 (some .int) 0 := ⟨bw_of (i := 1132) (by decide +kernel) (by decide +kernel), wI_X9, by decide +kernel⟩
theorem kvX9_rowsThere : KwV yX9_rowsThere := ⟨bw_of (i := 1131) (by decide +kernel) (by decide +kernel), bw_ofS (i := 78) (by decide +kernel) (by decide +kernel)⟩
theorem kwX9_image : Kw yX9_image cX9_image 2 (some .int) 1 := ⟨bw_of (i := 1136) (by decide +kernel) (by decide +kernel), wI_X9, by decide +kernel⟩
theorem kvX9_image : KwV yX9_image := ⟨bw_of (i := 1134) (by decide +kernel) (by decide +kernel), bw_of (i := 1135) (by decide +kernel) (by decide +kernel)⟩
theorem kwX6_copy : Kw yX6_copy cX6_copy 2 none 1 := ⟨bw_of (i := 1140) (by decide +kernel) (by decide +kernel), wI_X6, by decide +kernel⟩
theorem kvX6_copy : KwV yX6_copy := ⟨bw_of (i := 1139) (by decide +kernel) (by decide +kernel), bw_ofS (i := 79) (by decide +kernel) (by decide +kernel)⟩
theorem kwX3_copy : Kw yX3_copy cX3_copy 2 none 1 := ⟨bw_of (i := 1145) (by decide +kernel) (by decide +kernel), wI_X3, by decide +kernel⟩
theorem kvX3_copy : KwV yX3_copy := ⟨bw_of (i := 1144) (by decide +kernel) (by decide +kernel), bw_ofS (i := 80) (by decide +kernel) (by decide +kernel)⟩
theorem kwX0_copy : Kw yX0_copy cX0_copy 2 none 1 := ⟨bw_of (i := 1150) (by decide +kernel) (by decide +kernel), wI_X0, by decide +kernel⟩
theorem kvX0_copy : KwV yX0_copy := ⟨bw_of (i := 1149) (by decide +kernel) (by decide +kernel), bw_ofS (i := 81) (by decide +kernel) (by decide +kernel)⟩
theorem kwX9_back : Kw yX9_back cX9_back 2 (some .int) 1 := ⟨bw_of (i := 1155) (by decide +kernel) (by decide +kernel), wI_X9, by decide +kernel⟩
theorem kvX9_back : KwV yX9_back := ⟨bw_of (i := 1153) (by decide +kernel) (by decide +kernel), bw_of (i := 1154) (by decide +kernel) (by decide +kernel)⟩
theorem kwX9_row : Kw yX9_row cX9_row 4 (some .int) 3 := ⟨bw_of (i := 1159) (by decide +kernel) (by decide +kernel), wI_X9, by decide +kernel⟩
theorem kvX9_row : KwV yX9_row := ⟨bw_of (i := 1157) (by decide +kernel) (by decide +kernel), bw_of (i := 1158) (by decide +kernel) (by decide +kernel)⟩
theorem kwX7_make : Kw yX7_make cX7_make 3 none 2 := ⟨bw_of (i := 1163) (by decide +kernel) (by decide +kernel), wI_X7, by decide +kernel⟩
theorem kvX7_make : KwV yX7_make := ⟨bw_of (i := 1162) (by decide +kernel) (by decide +kernel), bw_ofS (i := 82) (by decide +kernel) (by decide +kernel)⟩
theorem kwJ7_fill_d0a16 : Kw yJ7_fill_d0a16 cJ7_fill_d0a16 5 none 2 := ⟨bw_of (i := 1166) (by decide +kernel) (by decide +kernel), wI_J7, by decide +kernel⟩
theorem ksJ7_fill_d0a16 : KwS yJ7_fill_d0a16 := bw_of (i := 1165) (by decide +kernel) (by decide +kernel)
theorem kwX9_write : Kw yX9_write cX9_write 6 (some .int) 3 := ⟨bw_of (i := 1170) (by decide +kernel) (by decide +kernel), wI_X9, by decide +kernel⟩
theorem kvX9_write : KwV yX9_write := ⟨bw_of (i := 1168) (by decide +kernel) (by decide +kernel), bw_of (i := 1169) (by decide +kernel) (by decide +kernel)⟩
theorem kwX9_cutToWidth : Kw yX9_cutToWidth cX9_cutToWidth 3 (some .long) 2 := ⟨bw_of (i := 1173) (by decide +kernel) (by decide +kernel), wI_X9, by decide +kernel⟩
theorem ksX9_cutToWidth : KwS yX9_cutToWidth := bw_of (i := 1172) (by decide +kernel) (by decide +kernel)
theorem kwX9_paste : Kw yX9_paste cX9_paste 8 (some .int) 5 := ⟨bw_of (i := 1177) (by decide +kernel) (by decide +kernel), wI_X9, by decide +kernel⟩
theorem kvX9_paste : KwV yX9_paste := ⟨bw_of (i := 1175) (by decide +kernel) (by decide +kernel), bw_of (i := 1176) (by decide +kernel) (by decide +kernel)⟩
theorem kwX7_hasRange : Kw yX7_hasRange cX7_hasRange 3 (some .boolean) 2 := ⟨bw_of (i := 1181) (by decide +kernel) (by decide +kernel), wI_X7, by decide +kernel⟩
theorem kvX7_hasRange : KwV yX7_hasRange := ⟨bw_of (i := 1180) (by decide +kernel) (by decide +kernel), bw_ofS (i := 83) (by decide +kernel) (by decide +kernel)⟩
theorem kwX10_init : Kw yX10_init cX10_init 1 none 0 := ⟨bw_of (i := 1187) (by decide +kernel) (by decide +kernel), wI_X10, by decide +kernel⟩
theorem kiX10_init : KwI yX10_init := ⟨bw_of (i := 1186) (by decide +kernel) (by decide +kernel), by decide +kernel⟩
theorem kwX10_image : Kw yX10_image cX10_image 3 (some .int) 1 := ⟨bw_of (i := 1328) (by decide +kernel) (by decide +kernel), wI_X10, by decide +kernel⟩
theorem kvX10_image : KwV yX10_image := ⟨bw_of (i := 1326) (by decide +kernel) (by decide +kernel), bw_of (i := 1327) (by decide +kernel) (by decide +kernel)⟩
theorem kwX10_in : Kw yX10_in cX10_in 6 (some .boolean) 3 := ⟨bw_of (i := 1332) (by decide +kernel) (by decide +kernel), wI_X10, by decide +kernel⟩
theorem ksX10_in : KwS yX10_in := bw_of (i := 1331) (by decide +kernel) (by decide +kernel)
theorem kwX10_back : Kw yX10_back cX10_back 3 (some .int) 1 := ⟨bw_of (i := 1336) (by decide +kernel) (by decide +kernel), wI_X10, by decide +kernel⟩
theorem kvX10_back : KwV yX10_back := ⟨bw_of (i := 1334) (by decide +kernel) (by decide +kernel), bw_of (i := 1335) (by decide +kernel) (by decide +kernel)⟩
theorem kwX10_feed : Kw yX10_feed cX10_feed 7 (some .int) 5 := ⟨bw_of (i := 1340) (by decide +kernel) (by decide +kernel), wI_X10, by decide +kernel⟩
theorem kvX10_feed : KwV yX10_feed := ⟨bw_of (i := 1338) (by decide +kernel) (by decide +kernel), bw_of (i := 1339) (by decide +kernel) (by decide +kernel)⟩
theorem kwX10_end : Kw yX10_end cX10_end 2 (some .int) 1 := ⟨bw_of (i := 1344) (by decide +kernel) (by decide +kernel), wI_X10, by decide +kernel⟩
theorem kvX10_end : KwV yX10_end := ⟨bw_of (i := 1342) (by decide +kernel) (by decide +kernel), bw_of (i := 1343) (by decide +kernel) (by decide +kernel)⟩
theorem kwX10_fault : Kw yX10_fault cX10_fault 2 (some .int) 1 := ⟨bw_of (i := 1348) (by decide +kernel) (by decide +kernel), wI_X10, by decide +kernel⟩
theorem kvX10_fault : KwV yX10_fault := ⟨bw_of (i := 1346) (by decide +kernel) (by decide +kernel), bw_of (i := 1347) (by decide +kernel) (by decide +kernel)⟩
theorem kwX10_dukedom : Kw yX10_dukedom cX10_dukedom 2 (some .int) 0 := ⟨bw_of (i := 1352) (by decide +kernel) (by decide +kernel), wI_X10, by decide +kernel⟩
theorem kvX10_dukedom : KwV yX10_dukedom := ⟨bw_of (i := 1350) (by decide +kernel) (by decide +kernel), bw_of (i := 1351) (by decide +kernel) (by decide +kernel)⟩
theorem kwX10_advance : Kw yX10_advance cX10_advance 2 none 0 := ⟨bw_of (i := 1356) (by decide +kernel) (by decide +kernel), wI_X10, by decide +kernel⟩
theorem kvX10_advance : KwV yX10_advance := ⟨bw_of (i := 1355) (by decide +kernel) (by decide +kernel), bw_ofS (i := 84) (by decide +kernel) (by decide +kernel)⟩
theorem kwX10_see : Kw yX10_see cX10_see 2 (some .int) 1 := ⟨bw_of (i := 1360) (by decide +kernel) (by decide +kernel), wI_X10, by decide +kernel⟩
theorem kvX10_see : KwV yX10_see := ⟨bw_of (i := 1359) (by decide +kernel) (by decide +kernel), bw_ofS (i := 85) (by decide +kernel) (by decide +kernel)⟩
theorem kwX10_good : Kw yX10_good cX10_good 1 (some .boolean) 0 := ⟨bw_of (i := 1370) (by decide +kernel) (by decide +kernel), wI_X10, by decide +kernel⟩
theorem kvX10_good : KwV yX10_good := ⟨bw_of (i := 1369) (by decide +kernel) (by decide +kernel), bw_ofS (i := 86) (by decide +kernel) (by decide +kernel)⟩
theorem kwX10_readLine : Kw yX10_readLine cX10_readLine 1 none 0 := ⟨bw_of (i := 1374) (by decide +kernel) (by decide +kernel), wI_X10, by decide +kernel⟩
theorem kvX10_readLine : KwV yX10_readLine := ⟨bw_of (i := 1373) (by decide +kernel) (by decide +kernel), bw_ofS (i := 87) (by decide +kernel) (by decide +kernel)⟩
theorem kwX10_readFirst : Kw yX10_readFirst cX10_readFirst 1 none 0 := ⟨bw_of (i := 1378) (by decide +kernel) (by decide +kernel), wI_X10, by decide +kernel⟩
theorem kvX10_readFirst : KwV yX10_readFirst := ⟨bw_of (i := 1377) (by decide +kernel) (by decide +kernel), bw_ofS (i := 88) (by decide +kernel) (by decide +kernel)⟩
theorem kwX10_needs : Kw yX10_needs cX10_needs 2 none 1 := ⟨bw_of (i := 1383) (by decide +kernel) (by decide +kernel), wI_X10, by decide +kernel⟩
theorem kvX10_needs : KwV yX10_needs := ⟨bw_of (i := 1382) (by decide +kernel) (by decide +kernel), bw_ofS (i := 89) (by decide +kernel) (by decide +kernel)⟩
theorem kwX10_takes : Kw yX10_takes cX10_takes 3 (some .boolean) 1 := ⟨bw_of (i := 1387) (by decide +kernel) (by decide +kernel), wI_X10, by decide +kernel⟩
theorem kvX10_takes : KwV yX10_takes := ⟨bw_of (i := 1386) (by decide +kernel) (by decide +kernel), bw_ofS (i := 90) (by decide +kernel) (by decide +kernel)⟩
theorem kwX10_is : Kw yX10_is cX10_is 4 (some .boolean) 1 := ⟨bw_of (i := 1391) (by decide +kernel) (by decide +kernel), wI_X10, by decide +kernel⟩
theorem kvX10_is : KwV yX10_is := ⟨bw_of (i := 1390) (by decide +kernel) (by decide +kernel), bw_ofS (i := 91) (by decide +kernel) (by decide +kernel)⟩
theorem kwX10_errs : Kw yX10_errs cX10_errs 2 none 1 := ⟨bw_of (i := 1397) (by decide +kernel) (by decide +kernel), wI_X10, by decide +kernel⟩
theorem kvX10_errs : KwV yX10_errs := ⟨bw_of (i := 1396) (by decide +kernel) (by decide +kernel), bw_ofS (i := 92) (by decide +kernel) (by decide +kernel)⟩
theorem kwX10_told : Kw yX10_told cX10_told 4 (some .int) 3 := ⟨bw_of (i := 1402) (by decide +kernel) (by decide +kernel), wI_X10, by decide +kernel⟩
theorem kvX10_told : KwV yX10_told := ⟨bw_of (i := 1401) (by decide +kernel) (by decide +kernel), bw_ofS (i := 93) (by decide +kernel) (by decide +kernel)⟩
theorem kwX10_number : Kw yX10_number cX10_number 4 (some .int) 2 := ⟨bw_of (i := 1406) (by decide +kernel) (by decide +kernel), wI_X10, by decide +kernel⟩
theorem kvX10_number : KwV yX10_number := ⟨bw_of (i := 1405) (by decide +kernel) (by decide +kernel), bw_ofS (i := 94) (by decide +kernel) (by decide +kernel)⟩
theorem kwX10_readNext : Kw yX10_readNext cX10_readNext 3 none 0 := ⟨bw_of (i := 1412) (by decide +kernel) (by decide +kernel), wI_X10, by decide +kernel⟩
theorem kvX10_readNext : KwV yX10_readNext := ⟨bw_of (i := 1411) (by decide +kernel) (by decide +kernel), bw_ofS (i := 95) (by decide +kernel) (by decide +kernel)⟩
theorem kwX10_isFull : Kw yX10_isFull cX10_isFull 1 (some .boolean) 0 := ⟨bw_of (i := 1421) (by decide +kernel) (by decide +kernel), wI_X10, by decide +kernel⟩
theorem kvX10_isFull : KwV yX10_isFull := ⟨bw_of (i := 1420) (by decide +kernel) (by decide +kernel), bw_ofS (i := 96) (by decide +kernel) (by decide +kernel)⟩
theorem kwX10_readRank : Kw yX10_readRank cX10_readRank 2 none 0 := ⟨bw_of (i := 1425) (by decide +kernel) (by decide +kernel), wI_X10, by decide +kernel⟩
theorem kvX10_readRank : KwV yX10_readRank := ⟨bw_of (i := 1424) (by decide +kernel) (by decide +kernel), bw_ofS (i := 97) (by decide +kernel) (by decide +kernel)⟩
theorem kwX10_readInvite : Kw yX10_readInvite cX10_readInvite 2 none 0 := ⟨bw_of (i := 1435) (by decide +kernel) (by decide +kernel), wI_X10, by decide +kernel⟩
theorem kvX10_readInvite : KwV yX10_readInvite := ⟨bw_of (i := 1434) (by decide +kernel) (by decide +kernel), bw_ofS (i := 98) (by decide +kernel) (by decide +kernel)⟩
theorem kwX10_rank : Kw yX10_rank cX10_rank 3 (some .int) 2 := ⟨bw_of (i := 1439) (by decide +kernel) (by decide +kernel), wI_X10, by decide +kernel⟩
theorem kvX10_rank : KwV yX10_rank := ⟨bw_of (i := 1437) (by decide +kernel) (by decide +kernel), bw_of (i := 1438) (by decide +kernel) (by decide +kernel)⟩
theorem kwX10_isRank : Kw yX10_isRank cX10_isRank 3 (some .boolean) 1 := ⟨bw_of (i := 1443) (by decide +kernel) (by decide +kernel), wI_X10, by decide +kernel⟩
theorem kvX10_isRank : KwV yX10_isRank := ⟨bw_of (i := 1442) (by decide +kernel) (by decide +kernel), bw_ofS (i := 99) (by decide +kernel) (by decide +kernel)⟩
theorem kwX10_of : Kw yX10_of cX10_of 3 (some .int) 2 := ⟨bw_of (i := 1448) (by decide +kernel) (by decide +kernel), wI_X10, by decide +kernel⟩
theorem kvX10_of : KwV yX10_of := ⟨bw_of (i := 1447) (by decide +kernel) (by decide +kernel), bw_ofS (i := 100) (by decide +kernel) (by decide +kernel)⟩
theorem kwX10_plank : Kw yX10_plank cX10_plank 3 (some .int) 2 := ⟨bw_of (i := 1452) (by decide +kernel) (by decide +kernel), wI_X10, by decide +kernel⟩
theorem kvX10_plank : KwV yX10_plank := ⟨bw_of (i := 1450) (by decide +kernel) (by decide +kernel), bw_of (i := 1451) (by decide +kernel) (by decide +kernel)⟩
theorem kwX10_invite : Kw yX10_invite cX10_invite 3 (some .int) 2 := ⟨bw_of (i := 1456) (by decide +kernel) (by decide +kernel), wI_X10, by decide +kernel⟩
theorem kvX10_invite : KwV yX10_invite := ⟨bw_of (i := 1454) (by decide +kernel) (by decide +kernel), bw_of (i := 1455) (by decide +kernel) (by decide +kernel)⟩
theorem kwX10_isInvite : Kw yX10_isInvite cX10_isInvite 2 (some .boolean) 1 := ⟨bw_of (i := 1460) (by decide +kernel) (by decide +kernel), wI_X10, by decide +kernel⟩
theorem kvX10_isInvite : KwV yX10_isInvite := ⟨bw_of (i := 1459) (by decide +kernel) (by decide +kernel), bw_ofS (i := 101) (by decide +kernel) (by decide +kernel)⟩
theorem kwX10_inviteOf : Kw yX10_inviteOf cX10_inviteOf 3 (some .int) 2 := ⟨bw_of (i := 1464) (by decide +kernel) (by decide +kernel), wI_X10, by decide +kernel⟩
theorem kvX10_inviteOf : KwV yX10_inviteOf := ⟨bw_of (i := 1463) (by decide +kernel) (by decide +kernel), bw_ofS (i := 102) (by decide +kernel) (by decide +kernel)⟩
theorem kwX10_rain : Kw yX10_rain cX10_rain 2 (some .int) 1 := ⟨bw_of (i := 1468) (by decide +kernel) (by decide +kernel), wI_X10, by decide +kernel⟩
theorem kvX10_rain : KwV yX10_rain := ⟨bw_of (i := 1466) (by decide +kernel) (by decide +kernel), bw_of (i := 1467) (by decide +kernel) (by decide +kernel)⟩
theorem kwX10_asItIs : Kw yX10_asItIs cX10_asItIs 3 none 0 := ⟨bw_of (i := 1472) (by decide +kernel) (by decide +kernel), wI_X10, by decide +kernel⟩
theorem kvX10_asItIs : KwV yX10_asItIs := ⟨bw_of (i := 1471) (by decide +kernel) (by decide +kernel), bw_ofS (i := 103) (by decide +kernel) (by decide +kernel)⟩
theorem kwX10_isYear : Kw yX10_isYear cX10_isYear 3 (some .boolean) 1 := ⟨bw_of (i := 1477) (by decide +kernel) (by decide +kernel), wI_X10, by decide +kernel⟩
theorem kvX10_isYear : KwV yX10_isYear := ⟨bw_of (i := 1476) (by decide +kernel) (by decide +kernel), bw_ofS (i := 104) (by decide +kernel) (by decide +kernel)⟩
theorem kwX10_frosts : Kw yX10_frosts cX10_frosts 1 (some .int) 0 := ⟨bw_of (i := 1481) (by decide +kernel) (by decide +kernel), wI_X10, by decide +kernel⟩
theorem kvX10_frosts : KwV yX10_frosts := ⟨bw_of (i := 1479) (by decide +kernel) (by decide +kernel), bw_of (i := 1480) (by decide +kernel) (by decide +kernel)⟩
theorem kwX10_isDukedom : Kw yX10_isDukedom cX10_isDukedom 1 (some .boolean) 0 := ⟨bw_of (i := 1485) (by decide +kernel) (by decide +kernel), wI_X10, by decide +kernel⟩
theorem kvX10_isDukedom : KwV yX10_isDukedom := ⟨bw_of (i := 1484) (by decide +kernel) (by decide +kernel), bw_ofS (i := 105) (by decide +kernel) (by decide +kernel)⟩
theorem kwX10_years : Kw yX10_years cX10_years 1 (some .int) 0 := ⟨bw_of (i := 1489) (by decide +kernel) (by decide +kernel), wI_X10, by decide +kernel⟩
theorem kvX10_years : KwV yX10_years := ⟨bw_of (i := 1488) (by decide +kernel) (by decide +kernel), bw_ofS (i := 106) (by decide +kernel) (by decide +kernel)⟩
theorem kwX10_water : Kw yX10_water cX10_water 3 (some .int) 2 := ⟨bw_of (i := 1493) (by decide +kernel) (by decide +kernel), wI_X10, by decide +kernel⟩
theorem kvX10_water : KwV yX10_water := ⟨bw_of (i := 1491) (by decide +kernel) (by decide +kernel), bw_of (i := 1492) (by decide +kernel) (by decide +kernel)⟩
theorem kwX10_asksYear : Kw yX10_asksYear cX10_asksYear 2 (some .boolean) 1 := ⟨bw_of (i := 1497) (by decide +kernel) (by decide +kernel), wI_X10, by decide +kernel⟩
theorem kvX10_asksYear : KwV yX10_asksYear := ⟨bw_of (i := 1496) (by decide +kernel) (by decide +kernel), bw_ofS (i := 107) (by decide +kernel) (by decide +kernel)⟩
theorem kwX10_asksDukedom : Kw yX10_asksDukedom cX10_asksDukedom 1 (some .boolean) 0 := ⟨bw_of (i := 1501) (by decide +kernel) (by decide +kernel), wI_X10, by decide +kernel⟩
theorem kvX10_asksDukedom : KwV yX10_asksDukedom := ⟨bw_of (i := 1500) (by decide +kernel) (by decide +kernel), bw_ofS (i := 108) (by decide +kernel) (by decide +kernel)⟩
theorem kwX10_goAll : Kw yX10_goAll cX10_goAll 2 none 0 := ⟨bw_of (i := 1505) (by decide +kernel) (by decide +kernel), wI_X10, by decide +kernel⟩
theorem kvX10_goAll : KwV yX10_goAll := ⟨bw_of (i := 1504) (by decide +kernel) (by decide +kernel), bw_ofS (i := 109) (by decide +kernel) (by decide +kernel)⟩
theorem kwX10_goYear : Kw yX10_goYear cX10_goYear 5 none 1 := ⟨bw_of (i := 1509) (by decide +kernel) (by decide +kernel), wI_X10, by decide +kernel⟩
theorem kvX10_goYear : KwV yX10_goYear := ⟨bw_of (i := 1508) (by decide +kernel) (by decide +kernel), bw_ofS (i := 110) (by decide +kernel) (by decide +kernel)⟩
theorem kwX10_ranks : Kw yX10_ranks cX10_ranks 1 (some .int) 0 := ⟨bw_of (i := 1513) (by decide +kernel) (by decide +kernel), wI_X10, by decide +kernel⟩
theorem kvX10_ranks : KwV yX10_ranks := ⟨bw_of (i := 1512) (by decide +kernel) (by decide +kernel), bw_ofS (i := 111) (by decide +kernel) (by decide +kernel)⟩
theorem kwX10_isFrost : Kw yX10_isFrost cX10_isFrost 2 (some .boolean) 1 := ⟨bw_of (i := 1517) (by decide +kernel) (by decide +kernel), wI_X10, by decide +kernel⟩
theorem kvX10_isFrost : KwV yX10_isFrost := ⟨bw_of (i := 1516) (by decide +kernel) (by decide +kernel), bw_ofS (i := 112) (by decide +kernel) (by decide +kernel)⟩
theorem kwX10_bit : Kw yX10_bit cX10_bit 2 (some .int) 2 := ⟨bw_of (i := 1520) (by decide +kernel) (by decide +kernel), wI_X10, by decide +kernel⟩
theorem ksX10_bit : KwS yX10_bit := bw_of (i := 1519) (by decide +kernel) (by decide +kernel)
theorem kwX10_runsOver : Kw yX10_runsOver cX10_runsOver 6 none 3 := ⟨bw_of (i := 1524) (by decide +kernel) (by decide +kernel), wI_X10, by decide +kernel⟩
theorem kvX10_runsOver : KwV yX10_runsOver := ⟨bw_of (i := 1523) (by decide +kernel) (by decide +kernel), bw_ofS (i := 113) (by decide +kernel) (by decide +kernel)⟩
theorem kwX10_waterIn : Kw yX10_waterIn cX10_waterIn 3 (some .int) 2 := ⟨bw_of (i := 1528) (by decide +kernel) (by decide +kernel), wI_X10, by decide +kernel⟩
theorem kvX10_waterIn : KwV yX10_waterIn := ⟨bw_of (i := 1527) (by decide +kernel) (by decide +kernel), bw_ofS (i := 114) (by decide +kernel) (by decide +kernel)⟩
theorem kwX10_spills : Kw yX10_spills cX10_spills 3 (some .int) 2 := ⟨bw_of (i := 1532) (by decide +kernel) (by decide +kernel), wI_X10, by decide +kernel⟩
theorem kvX10_spills : KwV yX10_spills := ⟨bw_of (i := 1530) (by decide +kernel) (by decide +kernel), bw_of (i := 1531) (by decide +kernel) (by decide +kernel)⟩
theorem kwX10_lost : Kw yX10_lost cX10_lost 2 (some .int) 1 := ⟨bw_of (i := 1536) (by decide +kernel) (by decide +kernel), wI_X10, by decide +kernel⟩
theorem kvX10_lost : KwV yX10_lost := ⟨bw_of (i := 1534) (by decide +kernel) (by decide +kernel), bw_of (i := 1535) (by decide +kernel) (by decide +kernel)⟩
theorem kwX10_drained : Kw yX10_drained cX10_drained 3 (some .int) 2 := ⟨bw_of (i := 1540) (by decide +kernel) (by decide +kernel), wI_X10, by decide +kernel⟩
theorem kvX10_drained : KwV yX10_drained := ⟨bw_of (i := 1538) (by decide +kernel) (by decide +kernel), bw_of (i := 1539) (by decide +kernel) (by decide +kernel)⟩
theorem kwX10_all : Kw yX10_all cX10_all 4 (some .int) 1 := ⟨bw_of (i := 1544) (by decide +kernel) (by decide +kernel), wI_X10, by decide +kernel⟩
theorem kvX10_all : KwV yX10_all := ⟨bw_of (i := 1542) (by decide +kernel) (by decide +kernel), bw_of (i := 1543) (by decide +kernel) (by decide +kernel)⟩
theorem kwX10_dry : Kw yX10_dry cX10_dry 4 (some .int) 1 := ⟨bw_of (i := 1548) (by decide +kernel) (by decide +kernel), wI_X10, by decide +kernel⟩
theorem kvX10_dry : KwV yX10_dry := ⟨bw_of (i := 1546) (by decide +kernel) (by decide +kernel), bw_of (i := 1547) (by decide +kernel) (by decide +kernel)⟩
theorem kwX10_deepest : Kw yX10_deepest cX10_deepest 4 (some .int) 1 := ⟨bw_of (i := 1552) (by decide +kernel) (by decide +kernel), wI_X10, by decide +kernel⟩
theorem kvX10_deepest : KwV yX10_deepest := ⟨bw_of (i := 1550) (by decide +kernel) (by decide +kernel), bw_of (i := 1551) (by decide +kernel) (by decide +kernel)⟩
theorem kwX10_most : Kw yX10_most cX10_most 4 (some .int) 1 := ⟨bw_of (i := 1556) (by decide +kernel) (by decide +kernel), wI_X10, by decide +kernel⟩
theorem kvX10_most : KwV yX10_most := ⟨bw_of (i := 1554) (by decide +kernel) (by decide +kernel), bw_of (i := 1555) (by decide +kernel) (by decide +kernel)⟩
theorem kwX10_asksRank : Kw yX10_asksRank cX10_asksRank 2 (some .boolean) 1 := ⟨bw_of (i := 1560) (by decide +kernel) (by decide +kernel), wI_X10, by decide +kernel⟩
theorem kvX10_asksRank : KwV yX10_asksRank := ⟨bw_of (i := 1559) (by decide +kernel) (by decide +kernel), bw_ofS (i := 115) (by decide +kernel) (by decide +kernel)⟩
theorem kwX10_dries : Kw yX10_dries cX10_dries 3 (some .int) 1 := ⟨bw_of (i := 1564) (by decide +kernel) (by decide +kernel), wI_X10, by decide +kernel⟩
theorem kvX10_dries : KwV yX10_dries := ⟨bw_of (i := 1562) (by decide +kernel) (by decide +kernel), bw_of (i := 1563) (by decide +kernel) (by decide +kernel)⟩
theorem kwX10_wet : Kw yX10_wet cX10_wet 4 (some .int) 1 := ⟨bw_of (i := 1568) (by decide +kernel) (by decide +kernel), wI_X10, by decide +kernel⟩
theorem kvX10_wet : KwV yX10_wet := ⟨bw_of (i := 1566) (by decide +kernel) (by decide +kernel), bw_of (i := 1567) (by decide +kernel) (by decide +kernel)⟩
theorem kwX10_flood : Kw yX10_flood cX10_flood 3 (some .int) 0 := ⟨bw_of (i := 1572) (by decide +kernel) (by decide +kernel), wI_X10, by decide +kernel⟩
theorem kvX10_flood : KwV yX10_flood := ⟨bw_of (i := 1570) (by decide +kernel) (by decide +kernel), bw_of (i := 1571) (by decide +kernel) (by decide +kernel)⟩
theorem kwX10_rains : Kw yX10_rains cX10_rains 3 (some .int) 0 := ⟨bw_of (i := 1576) (by decide +kernel) (by decide +kernel), wI_X10, by decide +kernel⟩
theorem kvX10_rains : KwV yX10_rains := ⟨bw_of (i := 1574) (by decide +kernel) (by decide +kernel), bw_of (i := 1575) (by decide +kernel) (by decide +kernel)⟩
theorem kwX10_over : Kw yX10_over cX10_over 4 (some .int) 3 := ⟨bw_of (i := 1580) (by decide +kernel) (by decide +kernel), wI_X10, by decide +kernel⟩
theorem kvX10_over : KwV yX10_over := ⟨bw_of (i := 1578) (by decide +kernel) (by decide +kernel), bw_of (i := 1579) (by decide +kernel) (by decide +kernel)⟩
theorem kwX10_doesFord : Kw yX10_doesFord cX10_doesFord 4 (some .boolean) 3 := ⟨bw_of (i := 1584) (by decide +kernel) (by decide +kernel), wI_X10, by decide +kernel⟩
theorem kvX10_doesFord : KwV yX10_doesFord := ⟨bw_of (i := 1583) (by decide +kernel) (by decide +kernel), bw_ofS (i := 116) (by decide +kernel) (by decide +kernel)⟩
theorem kwX10_hasPlank : Kw yX10_hasPlank cX10_hasPlank 4 (some .boolean) 1 := ⟨bw_of (i := 1588) (by decide +kernel) (by decide +kernel), wI_X10, by decide +kernel⟩
theorem kvX10_hasPlank : KwV yX10_hasPlank := ⟨bw_of (i := 1587) (by decide +kernel) (by decide +kernel), bw_ofS (i := 117) (by decide +kernel) (by decide +kernel)⟩
theorem kwX10_comes : Kw yX10_comes cX10_comes 3 (some .int) 2 := ⟨bw_of (i := 1592) (by decide +kernel) (by decide +kernel), wI_X10, by decide +kernel⟩
theorem kvX10_comes : KwV yX10_comes := ⟨bw_of (i := 1590) (by decide +kernel) (by decide +kernel), bw_of (i := 1591) (by decide +kernel) (by decide +kernel)⟩
theorem kwX10_comesOf : Kw yX10_comesOf cX10_comesOf 5 (some .int) 2 := ⟨bw_of (i := 1596) (by decide +kernel) (by decide +kernel), wI_X10, by decide +kernel⟩
theorem kvX10_comesOf : KwV yX10_comesOf := ⟨bw_of (i := 1595) (by decide +kernel) (by decide +kernel), bw_ofS (i := 118) (by decide +kernel) (by decide +kernel)⟩
theorem kwX10_doesCome : Kw yX10_doesCome cX10_doesCome 4 (some .boolean) 3 := ⟨bw_of (i := 1600) (by decide +kernel) (by decide +kernel), wI_X10, by decide +kernel⟩
theorem kvX10_doesCome : KwV yX10_doesCome := ⟨bw_of (i := 1599) (by decide +kernel) (by decide +kernel), bw_ofS (i := 119) (by decide +kernel) (by decide +kernel)⟩
theorem kwX10_guests : Kw yX10_guests cX10_guests 3 (some .int) 2 := ⟨bw_of (i := 1604) (by decide +kernel) (by decide +kernel), wI_X10, by decide +kernel⟩
theorem kvX10_guests : KwV yX10_guests := ⟨bw_of (i := 1602) (by decide +kernel) (by decide +kernel), bw_of (i := 1603) (by decide +kernel) (by decide +kernel)⟩
theorem kwX10_guestsOf : Kw yX10_guestsOf cX10_guestsOf 5 (some .int) 2 := ⟨bw_of (i := 1608) (by decide +kernel) (by decide +kernel), wI_X10, by decide +kernel⟩
theorem kvX10_guestsOf : KwV yX10_guestsOf := ⟨bw_of (i := 1607) (by decide +kernel) (by decide +kernel), bw_ofS (i := 120) (by decide +kernel) (by decide +kernel)⟩
theorem kwX10_first : Kw yX10_first cX10_first 4 (some .int) 2 := ⟨bw_of (i := 1612) (by decide +kernel) (by decide +kernel), wI_X10, by decide +kernel⟩
theorem kvX10_first : KwV yX10_first := ⟨bw_of (i := 1610) (by decide +kernel) (by decide +kernel), bw_of (i := 1611) (by decide +kernel) (by decide +kernel)⟩
theorem kwX10_areTwo : Kw yX10_areTwo cX10_areTwo 3 (some .boolean) 2 := ⟨bw_of (i := 1616) (by decide +kernel) (by decide +kernel), wI_X10, by decide +kernel⟩
theorem kvX10_areTwo : KwV yX10_areTwo := ⟨bw_of (i := 1615) (by decide +kernel) (by decide +kernel), bw_ofS (i := 121) (by decide +kernel) (by decide +kernel)⟩
theorem kwX10_often : Kw yX10_often cX10_often 5 (some .int) 2 := ⟨bw_of (i := 1620) (by decide +kernel) (by decide +kernel), wI_X10, by decide +kernel⟩
theorem kvX10_often : KwV yX10_often := ⟨bw_of (i := 1618) (by decide +kernel) (by decide +kernel), bw_of (i := 1619) (by decide +kernel) (by decide +kernel)⟩
theorem kwX10_news : Kw yX10_news cX10_news 4 (some .int) 3 := ⟨bw_of (i := 1624) (by decide +kernel) (by decide +kernel), wI_X10, by decide +kernel⟩
theorem kvX10_news : KwV yX10_news := ⟨bw_of (i := 1622) (by decide +kernel) (by decide +kernel), bw_of (i := 1623) (by decide +kernel) (by decide +kernel)⟩
theorem kwX10_newsOf : Kw yX10_newsOf cX10_newsOf 8 (some .int) 3 := ⟨bw_of (i := 1628) (by decide +kernel) (by decide +kernel), wI_X10, by decide +kernel⟩
theorem kvX10_newsOf : KwV yX10_newsOf := ⟨bw_of (i := 1627) (by decide +kernel) (by decide +kernel), bw_ofS (i := 122) (by decide +kernel) (by decide +kernel)⟩
theorem kwX10_orNone : Kw yX10_orNone cX10_orNone 1 (some .int) 1 := ⟨bw_of (i := 1632) (by decide +kernel) (by decide +kernel), wI_X10, by decide +kernel⟩
theorem ksX10_orNone : KwS yX10_orNone := bw_of (i := 1631) (by decide +kernel) (by decide +kernel)
theorem kwX10_widest : Kw yX10_widest cX10_widest 5 (some .int) 1 := ⟨bw_of (i := 1636) (by decide +kernel) (by decide +kernel), wI_X10, by decide +kernel⟩
theorem kvX10_widest : KwV yX10_widest := ⟨bw_of (i := 1634) (by decide +kernel) (by decide +kernel), bw_of (i := 1635) (by decide +kernel) (by decide +kernel)⟩
theorem kwX10_friends : Kw yX10_friends cX10_friends 2 (some .int) 1 := ⟨bw_of (i := 1640) (by decide +kernel) (by decide +kernel), wI_X10, by decide +kernel⟩
theorem kvX10_friends : KwV yX10_friends := ⟨bw_of (i := 1638) (by decide +kernel) (by decide +kernel), bw_of (i := 1639) (by decide +kernel) (by decide +kernel)⟩
theorem kwX10_friendsOf : Kw yX10_friendsOf cX10_friendsOf 5 (some .int) 1 := ⟨bw_of (i := 1644) (by decide +kernel) (by decide +kernel), wI_X10, by decide +kernel⟩
theorem kvX10_friendsOf : KwV yX10_friendsOf := ⟨bw_of (i := 1643) (by decide +kernel) (by decide +kernel), bw_ofS (i := 123) (by decide +kernel) (by decide +kernel)⟩
theorem kwX10_fair : Kw yX10_fair cX10_fair 3 (some .int) 0 := ⟨bw_of (i := 1648) (by decide +kernel) (by decide +kernel), wI_X10, by decide +kernel⟩
theorem kvX10_fair : KwV yX10_fair := ⟨bw_of (i := 1646) (by decide +kernel) (by decide +kernel), bw_of (i := 1647) (by decide +kernel) (by decide +kernel)⟩
theorem kwX10_fords : Kw yX10_fords cX10_fords 5 (some .int) 2 := ⟨bw_of (i := 1652) (by decide +kernel) (by decide +kernel), wI_X10, by decide +kernel⟩
theorem kvX10_fords : KwV yX10_fords := ⟨bw_of (i := 1650) (by decide +kernel) (by decide +kernel), bw_of (i := 1651) (by decide +kernel) (by decide +kernel)⟩
theorem kwX10_shut : Kw yX10_shut cX10_shut 4 (some .int) 1 := ⟨bw_of (i := 1656) (by decide +kernel) (by decide +kernel), wI_X10, by decide +kernel⟩
theorem kvX10_shut : KwV yX10_shut := ⟨bw_of (i := 1654) (by decide +kernel) (by decide +kernel), bw_of (i := 1655) (by decide +kernel) (by decide +kernel)⟩
theorem kwX10_lone : Kw yX10_lone cX10_lone 5 (some .int) 0 := ⟨bw_of (i := 1660) (by decide +kernel) (by decide +kernel), wI_X10, by decide +kernel⟩
theorem kvX10_lone : KwV yX10_lone := ⟨bw_of (i := 1658) (by decide +kernel) (by decide +kernel), bw_of (i := 1659) (by decide +kernel) (by decide +kernel)⟩
theorem kwX10_kept : Kw yX10_kept cX10_kept 2 (some .int) 1 := ⟨bw_of (i := 1664) (by decide +kernel) (by decide +kernel), wI_X10, by decide +kernel⟩
theorem kvX10_kept : KwV yX10_kept := ⟨bw_of (i := 1662) (by decide +kernel) (by decide +kernel), bw_of (i := 1663) (by decide +kernel) (by decide +kernel)⟩
theorem kwX10_isKept : Kw yX10_isKept cX10_isKept 2 (some .boolean) 1 := ⟨bw_of (i := 1668) (by decide +kernel) (by decide +kernel), wI_X10, by decide +kernel⟩
theorem kvX10_isKept : KwV yX10_isKept := ⟨bw_of (i := 1667) (by decide +kernel) (by decide +kernel), bw_ofS (i := 124) (by decide +kernel) (by decide +kernel)⟩
theorem kwX10_keeps : Kw yX10_keeps cX10_keeps 1 (some .int) 0 := ⟨bw_of (i := 1672) (by decide +kernel) (by decide +kernel), wI_X10, by decide +kernel⟩
theorem kvX10_keeps : KwV yX10_keeps := ⟨bw_of (i := 1670) (by decide +kernel) (by decide +kernel), bw_of (i := 1671) (by decide +kernel) (by decide +kernel)⟩
theorem kwX10_keptSet : Kw yX10_keptSet cX10_keptSet 3 (some .int) 0 := ⟨bw_of (i := 1676) (by decide +kernel) (by decide +kernel), wI_X10, by decide +kernel⟩
theorem kvX10_keptSet : KwV yX10_keptSet := ⟨bw_of (i := 1675) (by decide +kernel) (by decide +kernel), bw_ofS (i := 125) (by decide +kernel) (by decide +kernel)⟩
theorem kwX10_hinders : Kw yX10_hinders cX10_hinders 4 (some .int) 1 := ⟨bw_of (i := 1680) (by decide +kernel) (by decide +kernel), wI_X10, by decide +kernel⟩
theorem kvX10_hinders : KwV yX10_hinders := ⟨bw_of (i := 1678) (by decide +kernel) (by decide +kernel), bw_of (i := 1679) (by decide +kernel) (by decide +kernel)⟩
theorem kwX10_hosts : Kw yX10_hosts cX10_hosts 2 (some .int) 1 := ⟨bw_of (i := 1684) (by decide +kernel) (by decide +kernel), wI_X10, by decide +kernel⟩
theorem kvX10_hosts : KwV yX10_hosts := ⟨bw_of (i := 1682) (by decide +kernel) (by decide +kernel), bw_of (i := 1683) (by decide +kernel) (by decide +kernel)⟩
theorem kwX10_keptOf : Kw yX10_keptOf cX10_keptOf 5 (some .int) 2 := ⟨bw_of (i := 1688) (by decide +kernel) (by decide +kernel), wI_X10, by decide +kernel⟩
theorem kvX10_keptOf : KwV yX10_keptOf := ⟨bw_of (i := 1687) (by decide +kernel) (by decide +kernel), bw_ofS (i := 126) (by decide +kernel) (by decide +kernel)⟩
theorem kwX10_goes : Kw yX10_goes cX10_goes 2 (some .int) 1 := ⟨bw_of (i := 1692) (by decide +kernel) (by decide +kernel), wI_X10, by decide +kernel⟩
theorem kvX10_goes : KwV yX10_goes := ⟨bw_of (i := 1690) (by decide +kernel) (by decide +kernel), bw_of (i := 1691) (by decide +kernel) (by decide +kernel)⟩
theorem kwX10_host : Kw yX10_host cX10_host 3 (some .int) 0 := ⟨bw_of (i := 1696) (by decide +kernel) (by decide +kernel), wI_X10, by decide +kernel⟩
theorem kvX10_host : KwV yX10_host := ⟨bw_of (i := 1694) (by decide +kernel) (by decide +kernel), bw_of (i := 1695) (by decide +kernel) (by decide +kernel)⟩
theorem kwX10_idle : Kw yX10_idle cX10_idle 5 (some .int) 0 := ⟨bw_of (i := 1700) (by decide +kernel) (by decide +kernel), wI_X10, by decide +kernel⟩
theorem kvX10_idle : KwV yX10_idle := ⟨bw_of (i := 1698) (by decide +kernel) (by decide +kernel), bw_of (i := 1699) (by decide +kernel) (by decide +kernel)⟩
theorem kwX10_keptMany : Kw yX10_keptMany cX10_keptMany 1 (some .int) 0 := ⟨bw_of (i := 1704) (by decide +kernel) (by decide +kernel), wI_X10, by decide +kernel⟩
theorem kvX10_keptMany : KwV yX10_keptMany := ⟨bw_of (i := 1703) (by decide +kernel) (by decide +kernel), bw_ofS (i := 127) (by decide +kernel) (by decide +kernel)⟩
theorem kwX10_bits : Kw yX10_bits cX10_bits 3 (some .int) 1 := ⟨bw_of (i := 1707) (by decide +kernel) (by decide +kernel), wI_X10, by decide +kernel⟩
theorem ksX10_bits : KwS yX10_bits := bw_of (i := 1706) (by decide +kernel) (by decide +kernel)
theorem kwX10_best : Kw yX10_best cX10_best 1 (some .int) 0 := ⟨bw_of (i := 1711) (by decide +kernel) (by decide +kernel), wI_X10, by decide +kernel⟩
theorem kvX10_best : KwV yX10_best := ⟨bw_of (i := 1709) (by decide +kernel) (by decide +kernel), bw_of (i := 1710) (by decide +kernel) (by decide +kernel)⟩
theorem kwX10_asksRows : Kw yX10_asksRows cX10_asksRows 4 (some .boolean) 0 := ⟨bw_of (i := 1715) (by decide +kernel) (by decide +kernel), wI_X10, by decide +kernel⟩
theorem kvX10_asksRows : KwV yX10_asksRows := ⟨bw_of (i := 1714) (by decide +kernel) (by decide +kernel), bw_ofS (i := 128) (by decide +kernel) (by decide +kernel)⟩
theorem kwX10_nextRow : Kw yX10_nextRow cX10_nextRow 2 (some .boolean) 0 := ⟨bw_of (i := 1719) (by decide +kernel) (by decide +kernel), wI_X10, by decide +kernel⟩
theorem kvX10_nextRow : KwV yX10_nextRow := ⟨bw_of (i := 1718) (by decide +kernel) (by decide +kernel), bw_ofS (i := 129) (by decide +kernel) (by decide +kernel)⟩
theorem kwX10_ways : Kw yX10_ways cX10_ways 1 (some .int) 0 := ⟨bw_of (i := 1723) (by decide +kernel) (by decide +kernel), wI_X10, by decide +kernel⟩
theorem kvX10_ways : KwV yX10_ways := ⟨bw_of (i := 1721) (by decide +kernel) (by decide +kernel), bw_of (i := 1722) (by decide +kernel) (by decide +kernel)⟩
theorem kwX10_lay : Kw yX10_lay cX10_lay 2 (some .int) 1 := ⟨bw_of (i := 1727) (by decide +kernel) (by decide +kernel), wI_X10, by decide +kernel⟩
theorem kvX10_lay : KwV yX10_lay := ⟨bw_of (i := 1725) (by decide +kernel) (by decide +kernel), bw_of (i := 1726) (by decide +kernel) (by decide +kernel)⟩
theorem kwX10_fills : Kw yX10_fills cX10_fills 1 (some .int) 0 := ⟨bw_of (i := 1731) (by decide +kernel) (by decide +kernel), wI_X10, by decide +kernel⟩
theorem kvX10_fills : KwV yX10_fills := ⟨bw_of (i := 1729) (by decide +kernel) (by decide +kernel), bw_of (i := 1730) (by decide +kernel) (by decide +kernel)⟩
theorem kwX10_fillSet : Kw yX10_fillSet cX10_fillSet 3 (some .int) 0 := ⟨bw_of (i := 1735) (by decide +kernel) (by decide +kernel), wI_X10, by decide +kernel⟩
theorem kvX10_fillSet : KwV yX10_fillSet := ⟨bw_of (i := 1734) (by decide +kernel) (by decide +kernel), bw_ofS (i := 130) (by decide +kernel) (by decide +kernel)⟩
theorem kwX10_timely : Kw yX10_timely cX10_timely 3 (some .int) 0 := ⟨bw_of (i := 1739) (by decide +kernel) (by decide +kernel), wI_X10, by decide +kernel⟩
theorem kvX10_timely : KwV yX10_timely := ⟨bw_of (i := 1738) (by decide +kernel) (by decide +kernel), bw_ofS (i := 131) (by decide +kernel) (by decide +kernel)⟩
theorem kwX10_filled : Kw yX10_filled cX10_filled 1 (some .int) 0 := ⟨bw_of (i := 1743) (by decide +kernel) (by decide +kernel), wI_X10, by decide +kernel⟩
theorem kvX10_filled : KwV yX10_filled := ⟨bw_of (i := 1741) (by decide +kernel) (by decide +kernel), bw_of (i := 1742) (by decide +kernel) (by decide +kernel)⟩
theorem kwX10_path : Kw yX10_path cX10_path 4 (some .int) 0 := ⟨bw_of (i := 1747) (by decide +kernel) (by decide +kernel), wI_X10, by decide +kernel⟩
theorem kvX10_path : KwV yX10_path := ⟨bw_of (i := 1745) (by decide +kernel) (by decide +kernel), bw_of (i := 1746) (by decide +kernel) (by decide +kernel)⟩
theorem kwX10_drain : Kw yX10_drain cX10_drain 5 (some .int) 1 := ⟨bw_of (i := 1751) (by decide +kernel) (by decide +kernel), wI_X10, by decide +kernel⟩
theorem kvX10_drain : KwV yX10_drain := ⟨bw_of (i := 1749) (by decide +kernel) (by decide +kernel), bw_of (i := 1750) (by decide +kernel) (by decide +kernel)⟩
theorem kwX10_learns : Kw yX10_learns cX10_learns 4 (some .int) 1 := ⟨bw_of (i := 1755) (by decide +kernel) (by decide +kernel), wI_X10, by decide +kernel⟩
theorem kvX10_learns : KwV yX10_learns := ⟨bw_of (i := 1753) (by decide +kernel) (by decide +kernel), bw_of (i := 1754) (by decide +kernel) (by decide +kernel)⟩
theorem kwX10_by : Kw yX10_by cX10_by 2 (some .int) 1 := ⟨bw_of (i := 1759) (by decide +kernel) (by decide +kernel), wI_X10, by decide +kernel⟩
theorem kvX10_by : KwV yX10_by := ⟨bw_of (i := 1757) (by decide +kernel) (by decide +kernel), bw_of (i := 1758) (by decide +kernel) (by decide +kernel)⟩
theorem kwX10_keptBy : Kw yX10_keptBy cX10_keptBy 2 (some .int) 1 := ⟨bw_of (i := 1763) (by decide +kernel) (by decide +kernel), wI_X10, by decide +kernel⟩
theorem kvX10_keptBy : KwV yX10_keptBy := ⟨bw_of (i := 1762) (by decide +kernel) (by decide +kernel), bw_ofS (i := 132) (by decide +kernel) (by decide +kernel)⟩
theorem kwX10_law : Kw yX10_law cX10_law 3 (some .int) 0 := ⟨bw_of (i := 1767) (by decide +kernel) (by decide +kernel), wI_X10, by decide +kernel⟩
theorem kvX10_law : KwV yX10_law := ⟨bw_of (i := 1765) (by decide +kernel) (by decide +kernel), bw_of (i := 1766) (by decide +kernel) (by decide +kernel)⟩
theorem kwX10_waters : Kw yX10_waters cX10_waters 4 (some .int) 2 := ⟨bw_of (i := 1771) (by decide +kernel) (by decide +kernel), wI_X10, by decide +kernel⟩
theorem kvX10_waters : KwV yX10_waters := ⟨bw_of (i := 1769) (by decide +kernel) (by decide +kernel), bw_of (i := 1770) (by decide +kernel) (by decide +kernel)⟩
theorem kwX10_layWaters : Kw yX10_layWaters cX10_layWaters 6 (some .int) 2 := ⟨bw_of (i := 1775) (by decide +kernel) (by decide +kernel), wI_X10, by decide +kernel⟩
theorem kvX10_layWaters : KwV yX10_layWaters := ⟨bw_of (i := 1774) (by decide +kernel) (by decide +kernel), bw_ofS (i := 133) (by decide +kernel) (by decide +kernel)⟩
theorem kwX10_askSeen : Kw yX10_askSeen cX10_askSeen 3 (some .int) 1 := ⟨bw_of (i := 1779) (by decide +kernel) (by decide +kernel), wI_X10, by decide +kernel⟩
theorem kvX10_askSeen : KwV yX10_askSeen := ⟨bw_of (i := 1778) (by decide +kernel) (by decide +kernel), bw_ofS (i := 134) (by decide +kernel) (by decide +kernel)⟩
theorem kwX10_isSlot : Kw yX10_isSlot cX10_isSlot 1 (some .boolean) 1 := ⟨bw_of (i := 1782) (by decide +kernel) (by decide +kernel), wI_X10, by decide +kernel⟩
theorem ksX10_isSlot : KwS yX10_isSlot := bw_of (i := 1781) (by decide +kernel) (by decide +kernel)
theorem kwX10_numberAt : Kw yX10_numberAt cX10_numberAt 3 (some .long) 2 := ⟨bw_of (i := 1786) (by decide +kernel) (by decide +kernel), wI_X10, by decide +kernel⟩
theorem kvX10_numberAt : KwV yX10_numberAt := ⟨bw_of (i := 1785) (by decide +kernel) (by decide +kernel), bw_ofS (i := 135) (by decide +kernel) (by decide +kernel)⟩
theorem kwX10_isSeen : Kw yX10_isSeen cX10_isSeen 3 (some .boolean) 1 := ⟨bw_of (i := 1791) (by decide +kernel) (by decide +kernel), wI_X10, by decide +kernel⟩
theorem kvX10_isSeen : KwV yX10_isSeen := ⟨bw_of (i := 1790) (by decide +kernel) (by decide +kernel), bw_ofS (i := 136) (by decide +kernel) (by decide +kernel)⟩
theorem kwX10_least : Kw yX10_least cX10_least 4 (some .int) 2 := ⟨bw_of (i := 1795) (by decide +kernel) (by decide +kernel), wI_X10, by decide +kernel⟩
theorem kvX10_least : KwV yX10_least := ⟨bw_of (i := 1793) (by decide +kernel) (by decide +kernel), bw_of (i := 1794) (by decide +kernel) (by decide +kernel)⟩
theorem kwX10_greatest : Kw yX10_greatest cX10_greatest 4 (some .int) 2 := ⟨bw_of (i := 1799) (by decide +kernel) (by decide +kernel), wI_X10, by decide +kernel⟩
theorem kvX10_greatest : KwV yX10_greatest := ⟨bw_of (i := 1797) (by decide +kernel) (by decide +kernel), bw_of (i := 1798) (by decide +kernel) (by decide +kernel)⟩
theorem kwX10_ask : Kw yX10_ask cX10_ask 4 (some .int) 2 := ⟨bw_of (i := 1803) (by decide +kernel) (by decide +kernel), wI_X10, by decide +kernel⟩
theorem kvX10_ask : KwV yX10_ask := ⟨bw_of (i := 1801) (by decide +kernel) (by decide +kernel), bw_of (i := 1802) (by decide +kernel) (by decide +kernel)⟩
theorem kwX10_askOf : Kw yX10_askOf cX10_askOf 7 (some .int) 0 := ⟨bw_of (i := 1807) (by decide +kernel) (by decide +kernel), wI_X10, by decide +kernel⟩
theorem kvX10_askOf : KwV yX10_askOf := ⟨bw_of (i := 1806) (by decide +kernel) (by decide +kernel), bw_ofS (i := 137) (by decide +kernel) (by decide +kernel)⟩
theorem kwX10_leaves : Kw yX10_leaves cX10_leaves 4 (some .int) 2 := ⟨bw_of (i := 1811) (by decide +kernel) (by decide +kernel), wI_X10, by decide +kernel⟩
theorem kvX10_leaves : KwV yX10_leaves := ⟨bw_of (i := 1809) (by decide +kernel) (by decide +kernel), bw_of (i := 1810) (by decide +kernel) (by decide +kernel)⟩
theorem kwX10_laws : Kw yX10_laws cX10_laws 4 (some .int) 1 := ⟨bw_of (i := 1815) (by decide +kernel) (by decide +kernel), wI_X10, by decide +kernel⟩
theorem kvX10_laws : KwV yX10_laws := ⟨bw_of (i := 1813) (by decide +kernel) (by decide +kernel), bw_of (i := 1814) (by decide +kernel) (by decide +kernel)⟩
theorem kwX10_worth : Kw yX10_worth cX10_worth 2 (some .int) 1 := ⟨bw_of (i := 1819) (by decide +kernel) (by decide +kernel), wI_X10, by decide +kernel⟩
theorem kvX10_worth : KwV yX10_worth := ⟨bw_of (i := 1817) (by decide +kernel) (by decide +kernel), bw_of (i := 1818) (by decide +kernel) (by decide +kernel)⟩
theorem kwX10_keptWith : Kw yX10_keptWith cX10_keptWith 2 (some .int) 1 := ⟨bw_of (i := 1823) (by decide +kernel) (by decide +kernel), wI_X10, by decide +kernel⟩
theorem kvX10_keptWith : KwV yX10_keptWith := ⟨bw_of (i := 1822) (by decide +kernel) (by decide +kernel), bw_ofS (i := 138) (by decide +kernel) (by decide +kernel)⟩
theorem kwX10_share : Kw yX10_share cX10_share 6 (some .int) 2 := ⟨bw_of (i := 1827) (by decide +kernel) (by decide +kernel), wI_X10, by decide +kernel⟩
theorem kvX10_share : KwV yX10_share := ⟨bw_of (i := 1825) (by decide +kernel) (by decide +kernel), bw_of (i := 1826) (by decide +kernel) (by decide +kernel)⟩
theorem kwX10_factorial : Kw yX10_factorial cX10_factorial 3 (some .int) 1 := ⟨bw_of (i := 1830) (by decide +kernel) (by decide +kernel), wI_X10, by decide +kernel⟩
theorem ksX10_factorial : KwS yX10_factorial := bw_of (i := 1829) (by decide +kernel) (by decide +kernel)
theorem kwX10_part : Kw yX10_part cX10_part 5 (some .long) 3 := ⟨bw_of (i := 1833) (by decide +kernel) (by decide +kernel), wI_X10, by decide +kernel⟩
theorem ksX10_part : KwS yX10_part := bw_of (i := 1832) (by decide +kernel) (by decide +kernel)
theorem kwX10_divisor : Kw yX10_divisor cX10_divisor 10 (some .long) 2 := ⟨bw_of (i := 1836) (by decide +kernel) (by decide +kernel), wI_X10, by decide +kernel⟩
theorem ksX10_divisor : KwS yX10_divisor := bw_of (i := 1835) (by decide +kernel) (by decide +kernel)
theorem kwJ9_abs_067f4 : Kw yJ9_abs_067f4 cJ9_abs_067f4 2 (some .long) 1 := ⟨bw_of (i := 1839) (by decide +kernel) (by decide +kernel), wI_J9, by decide +kernel⟩
theorem ksJ9_abs_067f4 : KwS yJ9_abs_067f4 := bw_of (i := 1838) (by decide +kernel) (by decide +kernel)
theorem kwX10_rests : Kw yX10_rests cX10_rests 8 (some .int) 2 := ⟨bw_of (i := 1843) (by decide +kernel) (by decide +kernel), wI_X10, by decide +kernel⟩
theorem kvX10_rests : KwV yX10_rests := ⟨bw_of (i := 1841) (by decide +kernel) (by decide +kernel), bw_of (i := 1842) (by decide +kernel) (by decide +kernel)⟩
theorem kwX10_getsBy : Kw yX10_getsBy cX10_getsBy 7 (some .int) 5 := ⟨bw_of (i := 1847) (by decide +kernel) (by decide +kernel), wI_X10, by decide +kernel⟩
theorem kvX10_getsBy : KwV yX10_getsBy := ⟨bw_of (i := 1846) (by decide +kernel) (by decide +kernel), bw_ofS (i := 139) (by decide +kernel) (by decide +kernel)⟩
theorem kwX10_gets : Kw yX10_gets cX10_gets 5 (some .int) 4 := ⟨bw_of (i := 1851) (by decide +kernel) (by decide +kernel), wI_X10, by decide +kernel⟩
theorem kvX10_gets : KwV yX10_gets := ⟨bw_of (i := 1849) (by decide +kernel) (by decide +kernel), bw_of (i := 1850) (by decide +kernel) (by decide +kernel)⟩
theorem kwX10_chance : Kw yX10_chance cX10_chance 5 (some .long) 4 := ⟨bw_of (i := 1855) (by decide +kernel) (by decide +kernel), wI_X10, by decide +kernel⟩
theorem kvX10_chance : KwV yX10_chance := ⟨bw_of (i := 1853) (by decide +kernel) (by decide +kernel), bw_of (i := 1854) (by decide +kernel) (by decide +kernel)⟩
theorem kwX10_isFrosts : Kw yX10_isFrosts cX10_isFrosts 3 (some .boolean) 2 := ⟨bw_of (i := 1859) (by decide +kernel) (by decide +kernel), wI_X10, by decide +kernel⟩
theorem kvX10_isFrosts : KwV yX10_isFrosts := ⟨bw_of (i := 1858) (by decide +kernel) (by decide +kernel), bw_ofS (i := 140) (by decide +kernel) (by decide +kernel)⟩
theorem kwX10_layFrosts : Kw yX10_layFrosts cX10_layFrosts 9 none 3 := ⟨bw_of (i := 1865) (by decide +kernel) (by decide +kernel), wI_X10, by decide +kernel⟩
theorem kvX10_layFrosts : KwV yX10_layFrosts := ⟨bw_of (i := 1864) (by decide +kernel) (by decide +kernel), bw_ofS (i := 141) (by decide +kernel) (by decide +kernel)⟩
theorem kwX10_mean : Kw yX10_mean cX10_mean 4 (some .long) 3 := ⟨bw_of (i := 1869) (by decide +kernel) (by decide +kernel), wI_X10, by decide +kernel⟩
theorem kvX10_mean : KwV yX10_mean := ⟨bw_of (i := 1867) (by decide +kernel) (by decide +kernel), bw_of (i := 1868) (by decide +kernel) (by decide +kernel)⟩
theorem kwX10_adds : Kw yX10_adds cX10_adds 5 (some .int) 2 := ⟨bw_of (i := 1873) (by decide +kernel) (by decide +kernel), wI_X10, by decide +kernel⟩
theorem kvX10_adds : KwV yX10_adds := ⟨bw_of (i := 1871) (by decide +kernel) (by decide +kernel), bw_of (i := 1872) (by decide +kernel) (by decide +kernel)⟩
theorem kwX10_keepAct : Kw yX10_keepAct cX10_keepAct 2 (some .int) 1 := ⟨bw_of (i := 1878) (by decide +kernel) (by decide +kernel), wI_X10, by decide +kernel⟩
theorem kvX10_keepAct : KwV yX10_keepAct := ⟨bw_of (i := 1877) (by decide +kernel) (by decide +kernel), bw_ofS (i := 142) (by decide +kernel) (by decide +kernel)⟩
theorem kwX10_dredge : Kw yX10_dredge cX10_dredge 3 (some .int) 2 := ⟨bw_of (i := 1882) (by decide +kernel) (by decide +kernel), wI_X10, by decide +kernel⟩
theorem kvX10_dredge : KwV yX10_dredge := ⟨bw_of (i := 1880) (by decide +kernel) (by decide +kernel), bw_of (i := 1881) (by decide +kernel) (by decide +kernel)⟩
theorem kwX10_undo : Kw yX10_undo cX10_undo 1 (some .int) 0 := ⟨bw_of (i := 1886) (by decide +kernel) (by decide +kernel), wI_X10, by decide +kernel⟩
theorem kvX10_undo : KwV yX10_undo := ⟨bw_of (i := 1884) (by decide +kernel) (by decide +kernel), bw_of (i := 1885) (by decide +kernel) (by decide +kernel)⟩
theorem kwX10_anew : Kw yX10_anew cX10_anew 2 (some .int) 0 := ⟨bw_of (i := 1890) (by decide +kernel) (by decide +kernel), wI_X10, by decide +kernel⟩
theorem kvX10_anew : KwV yX10_anew := ⟨bw_of (i := 1888) (by decide +kernel) (by decide +kernel), bw_of (i := 1889) (by decide +kernel) (by decide +kernel)⟩
theorem kwX10_drawn : Kw yX10_drawn cX10_drawn 3 (some .int) 2 := ⟨bw_of (i := 1894) (by decide +kernel) (by decide +kernel), wI_X10, by decide +kernel⟩
theorem kvX10_drawn : KwV yX10_drawn := ⟨bw_of (i := 1892) (by decide +kernel) (by decide +kernel), bw_of (i := 1893) (by decide +kernel) (by decide +kernel)⟩
theorem kwX10_isSeed : Kw yX10_isSeed cX10_isSeed 1 (some .boolean) 1 := ⟨bw_of (i := 1897) (by decide +kernel) (by decide +kernel), wI_X10, by decide +kernel⟩
theorem ksX10_isSeed : KwS yX10_isSeed := bw_of (i := 1896) (by decide +kernel) (by decide +kernel)
theorem kwX10_goDrawn : Kw yX10_goDrawn cX10_goDrawn 6 none 1 := ⟨bw_of (i := 1902) (by decide +kernel) (by decide +kernel), wI_X10, by decide +kernel⟩
theorem kvX10_goDrawn : KwV yX10_goDrawn := ⟨bw_of (i := 1901) (by decide +kernel) (by decide +kernel), bw_ofS (i := 143) (by decide +kernel) (by decide +kernel)⟩
theorem kwX10_luck : Kw yX10_luck cX10_luck 6 (some .int) 3 := ⟨bw_of (i := 1911) (by decide +kernel) (by decide +kernel), wI_X10, by decide +kernel⟩
theorem kvX10_luck : KwV yX10_luck := ⟨bw_of (i := 1909) (by decide +kernel) (by decide +kernel), bw_of (i := 1910) (by decide +kernel) (by decide +kernel)⟩
theorem kwX10_digs : Kw yX10_digs cX10_digs 4 (some .int) 2 := ⟨bw_of (i := 1916) (by decide +kernel) (by decide +kernel), wI_X10, by decide +kernel⟩
theorem kvX10_digs : KwV yX10_digs := ⟨bw_of (i := 1914) (by decide +kernel) (by decide +kernel), bw_of (i := 1915) (by decide +kernel) (by decide +kernel)⟩
theorem kwX10_count : Kw yX10_count cX10_count 4 (some .int) 1 := ⟨bw_of (i := 1920) (by decide +kernel) (by decide +kernel), wI_X10, by decide +kernel⟩
theorem kvX10_count : KwV yX10_count := ⟨bw_of (i := 1918) (by decide +kernel) (by decide +kernel), bw_of (i := 1919) (by decide +kernel) (by decide +kernel)⟩
theorem kwX10_row : Kw yX10_row cX10_row 5 (some .int) 3 := ⟨bw_of (i := 1924) (by decide +kernel) (by decide +kernel), wI_X10, by decide +kernel⟩
theorem kvX10_row : KwV yX10_row := ⟨bw_of (i := 1922) (by decide +kernel) (by decide +kernel), bw_of (i := 1923) (by decide +kernel) (by decide +kernel)⟩
theorem kwX10_write : Kw yX10_write cX10_write 5 (some .int) 3 := ⟨bw_of (i := 1928) (by decide +kernel) (by decide +kernel), wI_X10, by decide +kernel⟩
theorem kvX10_write : KwV yX10_write := ⟨bw_of (i := 1926) (by decide +kernel) (by decide +kernel), bw_of (i := 1927) (by decide +kernel) (by decide +kernel)⟩
theorem kwX10_cut : Kw yX10_cut cX10_cut 4 (some .long) 2 := ⟨bw_of (i := 1931) (by decide +kernel) (by decide +kernel), wI_X10, by decide +kernel⟩
theorem ksX10_cut : KwS yX10_cut := bw_of (i := 1930) (by decide +kernel) (by decide +kernel)
theorem kwX10_paste : Kw yX10_paste cX10_paste 7 (some .int) 5 := ⟨bw_of (i := 1935) (by decide +kernel) (by decide +kernel), wI_X10, by decide +kernel⟩
theorem kvX10_paste : KwV yX10_paste := ⟨bw_of (i := 1933) (by decide +kernel) (by decide +kernel), bw_of (i := 1934) (by decide +kernel) (by decide +kernel)⟩
theorem ksArraycopy : Cond.static arraycopyName ∈ bw := bw_of (i := 575) (by decide +kernel) (by decide +kernel)
theorem wObjI : Cond.instanceMethod objectInit ∈ bw := bw_of (i := 26) (by decide +kernel) (by decide +kernel)
theorem wObjC : Cond.code objectInit ⟨#[0xb1]⟩ 1 none ∈ bw := bw_of (i := 27) (by decide +kernel) (by decide +kernel)
