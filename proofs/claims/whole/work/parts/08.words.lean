/-! the methods; each word by its place in lw_tbl -/
def mX6_init : vMeth := (yX6_init, cX6_init, 1, none)
theorem co_X6_init : Cond.code yX6_init cX6_init 1 none ∈ vtb := vtb_in 66 (by decide +kernel) rfl
def mX1_init : vMeth := (yX1_init, cX1_init, 2, none)
theorem co_X1_init : Cond.code yX1_init cX1_init 2 none ∈ vtb := vtb_in 74 (by decide +kernel) rfl
def mX0_init : vMeth := (yX0_init, cX0_init, 1, none)
theorem co_X0_init : Cond.code yX0_init cX0_init 1 none ∈ vtb := vtb_in 81 (by decide +kernel) rfl
def mJ7_fill_53178 : vMeth := (yJ7_fill_53178, cJ7_fill_53178, 4, none)
theorem co_J7_fill_53178 : Cond.code yJ7_fill_53178 cJ7_fill_53178 4 none ∈ vtb := vtb_in 137 (by decide +kernel) rfl
def mX1_begin : vMeth := (yX1_begin, cX1_begin, 4, none)
theorem co_X1_begin : Cond.code yX1_begin cX1_begin 4 none ∈ vtb := vtb_in 141 (by decide +kernel) rfl
def mX2_init : vMeth := (yX2_init, cX2_init, 2, none)
theorem co_X2_init : Cond.code yX2_init cX2_init 2 none ∈ vtb := vtb_in 181 (by decide +kernel) rfl
def mX5_init : vMeth := (yX5_init, cX5_init, 3, none)
theorem co_X5_init : Cond.code yX5_init cX5_init 3 none ∈ vtb := vtb_in 206 (by decide +kernel) rfl
def mX4_init : vMeth := (yX4_init, cX4_init, 1, none)
theorem co_X4_init : Cond.code yX4_init cX4_init 1 none ∈ vtb := vtb_in 212 (by decide +kernel) rfl
def mX3_init : vMeth := (yX3_init, cX3_init, 3, none)
theorem co_X3_init : Cond.code yX3_init cX3_init 3 none ∈ vtb := vtb_in 257 (by decide +kernel) rfl
def mX6_table : vMeth := (yX6_table, cX6_table, 4, (some .int))
theorem co_X6_table : Cond.code yX6_table cX6_table 4 (some .int) ∈ vtb := vtb_in 328 (by decide +kernel) rfl
def mX6_isWithin : vMeth := (yX6_isWithin, cX6_isWithin, 3, (some .boolean))
theorem co_X6_isWithin : Cond.code yX6_isWithin cX6_isWithin 3 (some .boolean) ∈ vtb := vtb_in 331 (by decide +kernel) rfl
def mX5_forget : vMeth := (yX5_forget, cX5_forget, 1, none)
theorem co_X5_forget : Cond.code yX5_forget cX5_forget 1 none ∈ vtb := vtb_in 336 (by decide +kernel) rfl
def mX3_forget : vMeth := (yX3_forget, cX3_forget, 1, none)
theorem co_X3_forget : Cond.code yX3_forget cX3_forget 1 none ∈ vtb := vtb_in 341 (by decide +kernel) rfl
def mX6_weight : vMeth := (yX6_weight, cX6_weight, 4, (some .int))
theorem co_X6_weight : Cond.code yX6_weight cX6_weight 4 (some .int) ∈ vtb := vtb_in 345 (by decide +kernel) rfl
def mX6_note : vMeth := (yX6_note, cX6_note, 4, (some .int))
theorem co_X6_note : Cond.code yX6_note cX6_note 4 (some .int) ∈ vtb := vtb_in 349 (by decide +kernel) rfl
def mX6_cell : vMeth := (yX6_cell, cX6_cell, 7, (some .int))
theorem co_X6_cell : Cond.code yX6_cell cX6_cell 7 (some .int) ∈ vtb := vtb_in 353 (by decide +kernel) rfl
def mX6_isPlace : vMeth := (yX6_isPlace, cX6_isPlace, 3, (some .boolean))
theorem co_X6_isPlace : Cond.code yX6_isPlace cX6_isPlace 3 (some .boolean) ∈ vtb := vtb_in 357 (by decide +kernel) rfl
def mX6_tell : vMeth := (yX6_tell, cX6_tell, 2, (some .int))
theorem co_X6_tell : Cond.code yX6_tell cX6_tell 2 (some .int) ∈ vtb := vtb_in 361 (by decide +kernel) rfl
def mX1_firstOn : vMeth := (yX1_firstOn, cX1_firstOn, 7, (some .int))
theorem co_X1_firstOn : Cond.code yX1_firstOn cX1_firstOn 7 (some .int) ∈ vtb := vtb_in 365 (by decide +kernel) rfl
def mX1_present : vMeth := (yX1_present, cX1_present, 3, (some (.object "TableSetter$Cell")))
theorem co_X1_present : Cond.code yX1_present cX1_present 3 (some (.object "TableSetter$Cell")) ∈ vtb := vtb_in 369 (by decide +kernel) rfl
def mX1_numbered : vMeth := (yX1_numbered, cX1_numbered, 2, (some (.object "TableSetter$Cell")))
theorem co_X1_numbered : Cond.code yX1_numbered cX1_numbered 2 (some (.object "TableSetter$Cell")) ∈ vtb := vtb_in 373 (by decide +kernel) rfl
def mX0_meets : vMeth := (yX0_meets, cX0_meets, 5, (some .boolean))
theorem co_X0_meets : Cond.code yX0_meets cX0_meets 5 (some .boolean) ∈ vtb := vtb_in 377 (by decide +kernel) rfl
def mX1_add : vMeth := (yX1_add, cX1_add, 6, (some .int))
theorem co_X1_add : Cond.code yX1_add cX1_add 6 (some .int) ∈ vtb := vtb_in 381 (by decide +kernel) rfl
def mX0_begin : vMeth := (yX0_begin, cX0_begin, 6, none)
theorem co_X0_begin : Cond.code yX0_begin cX0_begin 6 none ∈ vtb := vtb_in 385 (by decide +kernel) rfl
def mX0_fill : vMeth := (yX0_fill, cX0_fill, 2, none)
theorem co_X0_fill : Cond.code yX0_fill cX0_fill 2 none ∈ vtb := vtb_in 389 (by decide +kernel) rfl
def mX0_forgetLines : vMeth := (yX0_forgetLines, cX0_forgetLines, 1, none)
theorem co_X0_forgetLines : Cond.code yX0_forgetLines cX0_forgetLines 1 none ∈ vtb := vtb_in 394 (by decide +kernel) rfl
def mX6_clash : vMeth := (yX6_clash, cX6_clash, 1, (some .int))
theorem co_X6_clash : Cond.code yX6_clash cX6_clash 1 (some .int) ∈ vtb := vtb_in 398 (by decide +kernel) rfl
def mX6_drop : vMeth := (yX6_drop, cX6_drop, 3, (some .int))
theorem co_X6_drop : Cond.code yX6_drop cX6_drop 3 (some .int) ∈ vtb := vtb_in 402 (by decide +kernel) rfl
def mX6_told : vMeth := (yX6_told, cX6_told, 4, (some .int))
theorem co_X6_told : Cond.code yX6_told cX6_told 4 (some .int) ∈ vtb := vtb_in 407 (by decide +kernel) rfl
def mX0_fact : vMeth := (yX0_fact, cX0_fact, 2, (some .int))
theorem co_X0_fact : Cond.code yX0_fact cX0_fact 2 (some .int) ∈ vtb := vtb_in 411 (by decide +kernel) rfl
def mX6_is : vMeth := (yX6_is, cX6_is, 4, (some .int))
theorem co_X6_is : Cond.code yX6_is cX6_is 4 (some .int) ∈ vtb := vtb_in 415 (by decide +kernel) rfl
def mX6_on : vMeth := (yX6_on, cX6_on, 3, (some .int))
theorem co_X6_on : Cond.code yX6_on cX6_on 3 (some .int) ∈ vtb := vtb_in 419 (by decide +kernel) rfl
def mX6_words : vMeth := (yX6_words, cX6_words, 4, (some .int))
theorem co_X6_words : Cond.code yX6_words cX6_words 4 (some .int) ∈ vtb := vtb_in 423 (by decide +kernel) rfl
def mX6_word : vMeth := (yX6_word, cX6_word, 5, (some .int))
theorem co_X6_word : Cond.code yX6_word cX6_word 5 (some .int) ∈ vtb := vtb_in 428 (by decide +kernel) rfl
def mX0_holds : vMeth := (yX0_holds, cX0_holds, 3, (some .boolean))
theorem co_X0_holds : Cond.code yX0_holds cX0_holds 3 (some .boolean) ∈ vtb := vtb_in 432 (by decide +kernel) rfl
def mX0_exchange : vMeth := (yX0_exchange, cX0_exchange, 4, (some .int))
theorem co_X0_exchange : Cond.code yX0_exchange cX0_exchange 4 (some .int) ∈ vtb := vtb_in 436 (by decide +kernel) rfl
def mX6_copy : vMeth := (yX6_copy, cX6_copy, 8, (some .int))
theorem co_X6_copy : Cond.code yX6_copy cX6_copy 8 (some .int) ∈ vtb := vtb_in 440 (by decide +kernel) rfl
def mX0_take : vMeth := (yX0_take, cX0_take, 5, none)
theorem co_X0_take : Cond.code yX0_take cX0_take 5 none ∈ vtb := vtb_in 444 (by decide +kernel) rfl
def mX6_mean : vMeth := (yX6_mean, cX6_mean, 3, (some .int))
theorem co_X6_mean : Cond.code yX6_mean cX6_mean 3 (some .int) ∈ vtb := vtb_in 452 (by decide +kernel) rfl
def mX0_allLetters : vMeth := (yX0_allLetters, cX0_allLetters, 3, (some .int))
theorem co_X0_allLetters : Cond.code yX0_allLetters cX0_allLetters 3 (some .int) ∈ vtb := vtb_in 456 (by decide +kernel) rfl
def mX6_calls : vMeth := (yX6_calls, cX6_calls, 5, (some .int))
theorem co_X6_calls : Cond.code yX6_calls cX6_calls 5 (some .int) ∈ vtb := vtb_in 460 (by decide +kernel) rfl
def mX6_fix : vMeth := (yX6_fix, cX6_fix, 5, (some .int))
theorem co_X6_fix : Cond.code yX6_fix cX6_fix 5 (some .int) ∈ vtb := vtb_in 464 (by decide +kernel) rfl
def mX6_lines : vMeth := (yX6_lines, cX6_lines, 4, (some .int))
theorem co_X6_lines : Cond.code yX6_lines cX6_lines 4 (some .int) ∈ vtb := vtb_in 468 (by decide +kernel) rfl
def mX0_linesIn : vMeth := (yX0_linesIn, cX0_linesIn, 3, (some .int))
theorem co_X0_linesIn : Cond.code yX0_linesIn cX0_linesIn 3 (some .int) ∈ vtb := vtb_in 472 (by decide +kernel) rfl
def mX0_countLines : vMeth := (yX0_countLines, cX0_countLines, 7, (some .int))
theorem co_X0_countLines : Cond.code yX0_countLines cX0_countLines 7 (some .int) ∈ vtb := vtb_in 479 (by decide +kernel) rfl
def mX6_want : vMeth := (yX6_want, cX6_want, 4, (some .int))
theorem co_X6_want : Cond.code yX6_want cX6_want 4 (some .int) ∈ vtb := vtb_in 483 (by decide +kernel) rfl
def mX0_wanted : vMeth := (yX0_wanted, cX0_wanted, 2, (some .int))
theorem co_X0_wanted : Cond.code yX0_wanted cX0_wanted 2 (some .int) ∈ vtb := vtb_in 487 (by decide +kernel) rfl
def mX0_longestPiece : vMeth := (yX0_longestPiece, cX0_longestPiece, 3, (some .int))
theorem co_X0_longestPiece : Cond.code yX0_longestPiece cX0_longestPiece 3 (some .int) ∈ vtb := vtb_in 491 (by decide +kernel) rfl
def mX6_natural : vMeth := (yX6_natural, cX6_natural, 3, (some .int))
theorem co_X6_natural : Cond.code yX6_natural cX6_natural 3 (some .int) ∈ vtb := vtb_in 496 (by decide +kernel) rfl
def mX5_measure : vMeth := (yX5_measure, cX5_measure, 2, none)
theorem co_X5_measure : Cond.code yX5_measure cX5_measure 2 none ∈ vtb := vtb_in 500 (by decide +kernel) rfl
def mX5_measureFor : vMeth := (yX5_measureFor, cX5_measureFor, 6, none)
theorem co_X5_measureFor : Cond.code yX5_measureFor cX5_measureFor 6 none ∈ vtb := vtb_in 504 (by decide +kernel) rfl
def mX1_spanOf : vMeth := (yX1_spanOf, cX1_spanOf, 6, (some .int))
theorem co_X1_spanOf : Cond.code yX1_spanOf cX1_spanOf 6 (some .int) ∈ vtb := vtb_in 510 (by decide +kernel) rfl
def mX5_noteLack : vMeth := (yX5_noteLack, cX5_noteLack, 4, none)
theorem co_X5_noteLack : Cond.code yX5_noteLack cX5_noteLack 4 none ∈ vtb := vtb_in 517 (by decide +kernel) rfl
def mX4_divide : vMeth := (yX4_divide, cX4_divide, 9, none)
theorem co_X4_divide : Cond.code yX4_divide cX4_divide 9 none ∈ vtb := vtb_in 521 (by decide +kernel) rfl
def mX4_giveOne : vMeth := (yX4_giveOne, cX4_giveOne, 5, none)
theorem co_X4_giveOne : Cond.code yX4_giveOne cX4_giveOne 5 none ∈ vtb := vtb_in 527 (by decide +kernel) rfl
def mX5_addTo : vMeth := (yX5_addTo, cX5_addTo, 4, none)
theorem co_X5_addTo : Cond.code yX5_addTo cX5_addTo 4 none ∈ vtb := vtb_in 532 (by decide +kernel) rfl
def mX6_set : vMeth := (yX6_set, cX6_set, 3, (some .int))
theorem co_X6_set : Cond.code yX6_set cX6_set 3 (some .int) ∈ vtb := vtb_in 536 (by decide +kernel) rfl
def mX5_spareOf : vMeth := (yX5_spareOf, cX5_spareOf, 2, (some .int))
theorem co_X5_spareOf : Cond.code yX5_spareOf cX5_spareOf 2 (some .int) ∈ vtb := vtb_in 540 (by decide +kernel) rfl
def mX1_gaps : vMeth := (yX1_gaps, cX1_gaps, 1, (some .int))
theorem co_X1_gaps : Cond.code yX1_gaps cX1_gaps 1 (some .int) ∈ vtb := vtb_in 544 (by decide +kernel) rfl
def mX5_sumOf : vMeth := (yX5_sumOf, cX5_sumOf, 4, (some .int))
theorem co_X5_sumOf : Cond.code yX5_sumOf cX5_sumOf 4 (some .int) ∈ vtb := vtb_in 548 (by decide +kernel) rfl
def mX5_spread : vMeth := (yX5_spread, cX5_spread, 4, none)
theorem co_X5_spread : Cond.code yX5_spread cX5_spread 4 none ∈ vtb := vtb_in 552 (by decide +kernel) rfl
def mX6_heightOfTable : vMeth := (yX6_heightOfTable, cX6_heightOfTable, 1, (some .int))
theorem co_X6_heightOfTable : Cond.code yX6_heightOfTable cX6_heightOfTable 1 (some .int) ∈ vtb := vtb_in 557 (by decide +kernel) rfl
def mX2_sortCells : vMeth := (yX2_sortCells, cX2_sortCells, 4, none)
theorem co_X2_sortCells : Cond.code yX2_sortCells cX2_sortCells 4 none ∈ vtb := vtb_in 561 (by decide +kernel) rfl
def mX2_measure : vMeth := (yX2_measure, cX2_measure, 5, (some .int))
theorem co_X2_measure : Cond.code yX2_measure cX2_measure 5 (some .int) ∈ vtb := vtb_in 566 (by decide +kernel) rfl
def mX2_grow : vMeth := (yX2_grow, cX2_grow, 2, none)
theorem co_X2_grow : Cond.code yX2_grow cX2_grow 2 none ∈ vtb := vtb_in 571 (by decide +kernel) rfl
def mX2_noteLack : vMeth := (yX2_noteLack, cX2_noteLack, 6, none)
theorem co_X2_noteLack : Cond.code yX2_noteLack cX2_noteLack 6 none ∈ vtb := vtb_in 577 (by decide +kernel) rfl
def mX2_sum : vMeth := (yX2_sum, cX2_sum, 3, (some .int))
theorem co_X2_sum : Cond.code yX2_sum cX2_sum 3 (some .int) ∈ vtb := vtb_in 583 (by decide +kernel) rfl
def mX6_tight : vMeth := (yX6_tight, cX6_tight, 6, (some .int))
theorem co_X6_tight : Cond.code yX6_tight cX6_tight 6 (some .int) ∈ vtb := vtb_in 587 (by decide +kernel) rfl
def mX5_waysToSpread : vMeth := (yX5_waysToSpread, cX5_waysToSpread, 5, (some .long))
theorem co_X5_waysToSpread : Cond.code yX5_waysToSpread cX5_waysToSpread 5 (some .long) ∈ vtb := vtb_in 591 (by decide +kernel) rfl
def mX5_tighten : vMeth := (yX5_tighten, cX5_tighten, 6, (some .int))
theorem co_X5_tighten : Cond.code yX5_tighten cX5_tighten 6 (some .int) ∈ vtb := vtb_in 595 (by decide +kernel) rfl
def mX5_addToLast : vMeth := (yX5_addToLast, cX5_addToLast, 3, none)
theorem co_X5_addToLast : Cond.code yX5_addToLast cX5_addToLast 3 none ∈ vtb := vtb_in 599 (by decide +kernel) rfl
def mX5_tryNext : vMeth := (yX5_tryNext, cX5_tryNext, 3, none)
theorem co_X5_tryNext : Cond.code yX5_tryNext cX5_tryNext 3 none ∈ vtb := vtb_in 605 (by decide +kernel) rfl
def mX6_tries : vMeth := (yX6_tries, cX6_tries, 1, (some .int))
theorem co_X6_tries : Cond.code yX6_tries cX6_tries 1 (some .int) ∈ vtb := vtb_in 610 (by decide +kernel) rfl
def mX6_width : vMeth := (yX6_width, cX6_width, 2, (some .int))
theorem co_X6_width : Cond.code yX6_width cX6_width 2 (some .int) ∈ vtb := vtb_in 614 (by decide +kernel) rfl
def mX6_height : vMeth := (yX6_height, cX6_height, 2, (some .int))
theorem co_X6_height : Cond.code yX6_height cX6_height 2 (some .int) ∈ vtb := vtb_in 618 (by decide +kernel) rfl
def mX6_pages : vMeth := (yX6_pages, cX6_pages, 2, (some .int))
theorem co_X6_pages : Cond.code yX6_pages cX6_pages 2 (some .int) ∈ vtb := vtb_in 622 (by decide +kernel) rfl
def mX3_make : vMeth := (yX3_make, cX3_make, 3, (some .int))
theorem co_X3_make : Cond.code yX3_make cX3_make 3 (some .int) ∈ vtb := vtb_in 626 (by decide +kernel) rfl
def mX1_headRows : vMeth := (yX1_headRows, cX1_headRows, 2, (some .int))
theorem co_X1_headRows : Cond.code yX1_headRows cX1_headRows 2 (some .int) ∈ vtb := vtb_in 630 (by decide +kernel) rfl
def mX1_hasHead : vMeth := (yX1_hasHead, cX1_hasHead, 4, (some .boolean))
theorem co_X1_hasHead : Cond.code yX1_hasHead cX1_hasHead 4 (some .boolean) ∈ vtb := vtb_in 634 (by decide +kernel) rfl
def mX0_liesOnRow : vMeth := (yX0_liesOnRow, cX0_liesOnRow, 2, (some .boolean))
theorem co_X0_liesOnRow : Cond.code yX0_liesOnRow cX0_liesOnRow 2 (some .boolean) ∈ vtb := vtb_in 638 (by decide +kernel) rfl
def mX3_findHomes : vMeth := (yX3_findHomes, cX3_findHomes, 4, none)
theorem co_X3_findHomes : Cond.code yX3_findHomes cX3_findHomes 4 none ∈ vtb := vtb_in 643 (by decide +kernel) rfl
def mX1_firstCall : vMeth := (yX1_firstCall, cX1_firstCall, 5, (some .int))
theorem co_X1_firstCall : Cond.code yX1_firstCall cX1_firstCall 5 (some .int) ∈ vtb := vtb_in 648 (by decide +kernel) rfl
def mX1_breaksAhead : vMeth := (yX1_breaksAhead, cX1_breaksAhead, 5, (some .boolean))
theorem co_X1_breaksAhead : Cond.code yX1_breaksAhead cX1_breaksAhead 5 (some .boolean) ∈ vtb := vtb_in 653 (by decide +kernel) rfl
def mX3_planFrom : vMeth := (yX3_planFrom, cX3_planFrom, 5, none)
theorem co_X3_planFrom : Cond.code yX3_planFrom cX3_planFrom 5 none ∈ vtb := vtb_in 657 (by decide +kernel) rfl
def mX3_isAlone : vMeth := (yX3_isAlone, cX3_isAlone, 3, (some .boolean))
theorem co_X3_isAlone : Cond.code yX3_isAlone cX3_isAlone 3 (some .boolean) ∈ vtb := vtb_in 661 (by decide +kernel) rfl
def mX3_weigh : vMeth := (yX3_weigh, cX3_weigh, 7, none)
theorem co_X3_weigh : Cond.code yX3_weigh cX3_weigh 7 none ∈ vtb := vtb_in 665 (by decide +kernel) rfl
def mX3_layOut : vMeth := (yX3_layOut, cX3_layOut, 5, none)
theorem co_X3_layOut : Cond.code yX3_layOut cX3_layOut 5 none ∈ vtb := vtb_in 669 (by decide +kernel) rfl
def mX6_page : vMeth := (yX6_page, cX6_page, 3, (some .int))
theorem co_X6_page : Cond.code yX6_page cX6_page 3 (some .int) ∈ vtb := vtb_in 673 (by decide +kernel) rfl
def mX6_pageOf : vMeth := (yX6_pageOf, cX6_pageOf, 2, (some .int))
theorem co_X6_pageOf : Cond.code yX6_pageOf cX6_pageOf 2 (some .int) ∈ vtb := vtb_in 677 (by decide +kernel) rfl
def mX3_holding : vMeth := (yX3_holding, cX3_holding, 3, (some .int))
theorem co_X3_holding : Cond.code yX3_holding cX3_holding 3 (some .int) ∈ vtb := vtb_in 681 (by decide +kernel) rfl
def mX6_mayBreak : vMeth := (yX6_mayBreak, cX6_mayBreak, 2, (some .int))
theorem co_X6_mayBreak : Cond.code yX6_mayBreak cX6_mayBreak 2 (some .int) ∈ vtb := vtb_in 685 (by decide +kernel) rfl
def mX6_count : vMeth := (yX6_count, cX6_count, 2, (some .int))
theorem co_X6_count : Cond.code yX6_count cX6_count 2 (some .int) ∈ vtb := vtb_in 691 (by decide +kernel) rfl
def mX1_presentCells : vMeth := (yX1_presentCells, cX1_presentCells, 3, (some .int))
theorem co_X1_presentCells : Cond.code yX1_presentCells cX1_presentCells 3 (some .int) ∈ vtb := vtb_in 695 (by decide +kernel) rfl
def mX6_finding : vMeth := (yX6_finding, cX6_finding, 1, (some .int))
theorem co_X6_finding : Cond.code yX6_finding cX6_finding 1 (some .int) ∈ vtb := vtb_in 699 (by decide +kernel) rfl
def mX6_findings : vMeth := (yX6_findings, cX6_findings, 2, (some .int))
theorem co_X6_findings : Cond.code yX6_findings cX6_findings 2 (some .int) ∈ vtb := vtb_in 703 (by decide +kernel) rfl
def mX6_digest : vMeth := (yX6_digest, cX6_digest, 5, (some .long))
theorem co_X6_digest : Cond.code yX6_digest cX6_digest 5 (some .long) ∈ vtb := vtb_in 707 (by decide +kernel) rfl
def mX6_mixed : vMeth := (yX6_mixed, cX6_mixed, 7, (some .long))
theorem co_X6_mixed : Cond.code yX6_mixed cX6_mixed 7 (some .long) ∈ vtb := vtb_in 712 (by decide +kernel) rfl
def mX6_mixedCell : vMeth := (yX6_mixedCell, cX6_mixedCell, 6, (some .long))
theorem co_X6_mixedCell : Cond.code yX6_mixedCell cX6_mixedCell 6 (some .long) ∈ vtb := vtb_in 716 (by decide +kernel) rfl
def mX7_init : vMeth := (yX7_init, cX7_init, 2, none)
theorem co_X7_init : Cond.code yX7_init cX7_init 2 none ∈ vtb := vtb_in 721 (by decide +kernel) rfl
def mX7_begin : vMeth := (yX7_begin, cX7_begin, 5, none)
theorem co_X7_begin : Cond.code yX7_begin cX7_begin 5 none ∈ vtb := vtb_in 726 (by decide +kernel) rfl
def mX7_finding : vMeth := (yX7_finding, cX7_finding, 1, (some .int))
theorem co_X7_finding : Cond.code yX7_finding cX7_finding 1 (some .int) ∈ vtb := vtb_in 856 (by decide +kernel) rfl
def mX7_findings : vMeth := (yX7_findings, cX7_findings, 2, (some .int))
theorem co_X7_findings : Cond.code yX7_findings cX7_findings 2 (some .int) ∈ vtb := vtb_in 860 (by decide +kernel) rfl
def mX7_in : vMeth := (yX7_in, cX7_in, 3, (some .boolean))
theorem co_X7_in : Cond.code yX7_in cX7_in 3 (some .boolean) ∈ vtb := vtb_in 863 (by decide +kernel) rfl
def mX7_table : vMeth := (yX7_table, cX7_table, 4, (some .int))
theorem co_X7_table : Cond.code yX7_table cX7_table 4 (some .int) ∈ vtb := vtb_in 867 (by decide +kernel) rfl
def mX7_weight : vMeth := (yX7_weight, cX7_weight, 4, (some .int))
theorem co_X7_weight : Cond.code yX7_weight cX7_weight 4 (some .int) ∈ vtb := vtb_in 871 (by decide +kernel) rfl
def mX7_isColumn : vMeth := (yX7_isColumn, cX7_isColumn, 2, (some .boolean))
theorem co_X7_isColumn : Cond.code yX7_isColumn cX7_isColumn 2 (some .boolean) ∈ vtb := vtb_in 875 (by decide +kernel) rfl
def mX7_note : vMeth := (yX7_note, cX7_note, 4, (some .int))
theorem co_X7_note : Cond.code yX7_note cX7_note 4 (some .int) ∈ vtb := vtb_in 879 (by decide +kernel) rfl
def mX7_cell : vMeth := (yX7_cell, cX7_cell, 10, (some .int))
theorem co_X7_cell : Cond.code yX7_cell cX7_cell 10 (some .int) ∈ vtb := vtb_in 883 (by decide +kernel) rfl
def mX7_isRow : vMeth := (yX7_isRow, cX7_isRow, 2, (some .boolean))
theorem co_X7_isRow : Cond.code yX7_isRow cX7_isRow 2 (some .boolean) ∈ vtb := vtb_in 887 (by decide +kernel) rfl
def mX7_meets : vMeth := (yX7_meets, cX7_meets, 2, (some .int))
theorem co_X7_meets : Cond.code yX7_meets cX7_meets 2 (some .int) ∈ vtb := vtb_in 891 (by decide +kernel) rfl
def mX7_cellOn : vMeth := (yX7_cellOn, cX7_cellOn, 4, (some .int))
theorem co_X7_cellOn : Cond.code yX7_cellOn cX7_cellOn 4 (some .int) ∈ vtb := vtb_in 895 (by decide +kernel) rfl
def mX7_liesOn : vMeth := (yX7_liesOn, cX7_liesOn, 4, (some .boolean))
theorem co_X7_liesOn : Cond.code yX7_liesOn cX7_liesOn 4 (some .boolean) ∈ vtb := vtb_in 899 (by decide +kernel) rfl
def mX7_clash : vMeth := (yX7_clash, cX7_clash, 1, (some .int))
theorem co_X7_clash : Cond.code yX7_clash cX7_clash 1 (some .int) ∈ vtb := vtb_in 903 (by decide +kernel) rfl
def mX7_drop : vMeth := (yX7_drop, cX7_drop, 2, (some .int))
theorem co_X7_drop : Cond.code yX7_drop cX7_drop 2 (some .int) ∈ vtb := vtb_in 907 (by decide +kernel) rfl
def mX7_isCell : vMeth := (yX7_isCell, cX7_isCell, 2, (some .boolean))
theorem co_X7_isCell : Cond.code yX7_isCell cX7_isCell 2 (some .boolean) ∈ vtb := vtb_in 911 (by decide +kernel) rfl
def mX7_told : vMeth := (yX7_told, cX7_told, 4, (some .int))
theorem co_X7_told : Cond.code yX7_told cX7_told 4 (some .int) ∈ vtb := vtb_in 915 (by decide +kernel) rfl
def mX7_need : vMeth := (yX7_need, cX7_need, 3, (some .int))
theorem co_X7_need : Cond.code yX7_need cX7_need 3 (some .int) ∈ vtb := vtb_in 919 (by decide +kernel) rfl
def mX7_toldOf : vMeth := (yX7_toldOf, cX7_toldOf, 3, (some .int))
theorem co_X7_toldOf : Cond.code yX7_toldOf cX7_toldOf 3 (some .int) ∈ vtb := vtb_in 923 (by decide +kernel) rfl
def mX7_is : vMeth := (yX7_is, cX7_is, 4, (some .int))
theorem co_X7_is : Cond.code yX7_is cX7_is 4 (some .int) ∈ vtb := vtb_in 927 (by decide +kernel) rfl
def mX7_on : vMeth := (yX7_on, cX7_on, 3, (some .int))
theorem co_X7_on : Cond.code yX7_on cX7_on 3 (some .int) ∈ vtb := vtb_in 931 (by decide +kernel) rfl
def mX7_words : vMeth := (yX7_words, cX7_words, 5, (some .int))
theorem co_X7_words : Cond.code yX7_words cX7_words 5 (some .int) ∈ vtb := vtb_in 935 (by decide +kernel) rfl
def mX7_word : vMeth := (yX7_word, cX7_word, 6, (some .int))
theorem co_X7_word : Cond.code yX7_word cX7_word 6 (some .int) ∈ vtb := vtb_in 939 (by decide +kernel) rfl
def mX7_copy : vMeth := (yX7_copy, cX7_copy, 7, (some .int))
theorem co_X7_copy : Cond.code yX7_copy cX7_copy 7 (some .int) ∈ vtb := vtb_in 943 (by decide +kernel) rfl
def mX7_mean : vMeth := (yX7_mean, cX7_mean, 3, (some .int))
theorem co_X7_mean : Cond.code yX7_mean cX7_mean 3 (some .int) ∈ vtb := vtb_in 947 (by decide +kernel) rfl
def mX7_lettersOf : vMeth := (yX7_lettersOf, cX7_lettersOf, 4, (some .int))
theorem co_X7_lettersOf : Cond.code yX7_lettersOf cX7_lettersOf 4 (some .int) ∈ vtb := vtb_in 951 (by decide +kernel) rfl
def mX7_calls : vMeth := (yX7_calls, cX7_calls, 5, (some .int))
theorem co_X7_calls : Cond.code yX7_calls cX7_calls 5 (some .int) ∈ vtb := vtb_in 955 (by decide +kernel) rfl
def mX7_fix : vMeth := (yX7_fix, cX7_fix, 5, (some .int))
theorem co_X7_fix : Cond.code yX7_fix cX7_fix 5 (some .int) ∈ vtb := vtb_in 959 (by decide +kernel) rfl
def mX7_lines : vMeth := (yX7_lines, cX7_lines, 4, (some .int))
theorem co_X7_lines : Cond.code yX7_lines cX7_lines 4 (some .int) ∈ vtb := vtb_in 963 (by decide +kernel) rfl
def mX7_linesOf : vMeth := (yX7_linesOf, cX7_linesOf, 9, (some .int))
theorem co_X7_linesOf : Cond.code yX7_linesOf cX7_linesOf 9 (some .int) ∈ vtb := vtb_in 967 (by decide +kernel) rfl
def mX7_want : vMeth := (yX7_want, cX7_want, 4, (some .int))
theorem co_X7_want : Cond.code yX7_want cX7_want 4 (some .int) ∈ vtb := vtb_in 971 (by decide +kernel) rfl
def mX7_wantOf : vMeth := (yX7_wantOf, cX7_wantOf, 5, (some .int))
theorem co_X7_wantOf : Cond.code yX7_wantOf cX7_wantOf 5 (some .int) ∈ vtb := vtb_in 975 (by decide +kernel) rfl
def mX7_natural : vMeth := (yX7_natural, cX7_natural, 3, (some .int))
theorem co_X7_natural : Cond.code yX7_natural cX7_natural 3 (some .int) ∈ vtb := vtb_in 979 (by decide +kernel) rfl
def mX7_layBoth : vMeth := (yX7_layBoth, cX7_layBoth, 2, none)
theorem co_X7_layBoth : Cond.code yX7_layBoth cX7_layBoth 2 none ∈ vtb := vtb_in 983 (by decide +kernel) rfl
def mX7_layWidths : vMeth := (yX7_layWidths, cX7_layWidths, 5, none)
theorem co_X7_layWidths : Cond.code yX7_layWidths cX7_layWidths 5 none ∈ vtb := vtb_in 987 (by decide +kernel) rfl
def mX7_widthOver : vMeth := (yX7_widthOver, cX7_widthOver, 6, (some .int))
theorem co_X7_widthOver : Cond.code yX7_widthOver cX7_widthOver 6 (some .int) ∈ vtb := vtb_in 991 (by decide +kernel) rfl
def mX7_lacks : vMeth := (yX7_lacks, cX7_lacks, 5, none)
theorem co_X7_lacks : Cond.code yX7_lacks cX7_lacks 5 none ∈ vtb := vtb_in 995 (by decide +kernel) rfl
def mX7_share : vMeth := (yX7_share, cX7_share, 8, none)
theorem co_X7_share : Cond.code yX7_share cX7_share 8 none ∈ vtb := vtb_in 999 (by decide +kernel) rfl
def mX7_set : vMeth := (yX7_set, cX7_set, 6, (some .int))
theorem co_X7_set : Cond.code yX7_set cX7_set 6 (some .int) ∈ vtb := vtb_in 1003 (by decide +kernel) rfl
def mX7_sumOf : vMeth := (yX7_sumOf, cX7_sumOf, 4, (some .int))
theorem co_X7_sumOf : Cond.code yX7_sumOf cX7_sumOf 4 (some .int) ∈ vtb := vtb_in 1007 (by decide +kernel) rfl
def mX7_heightBy : vMeth := (yX7_heightBy, cX7_heightBy, 4, (some .int))
theorem co_X7_heightBy : Cond.code yX7_heightBy cX7_heightBy 4 (some .int) ∈ vtb := vtb_in 1011 (by decide +kernel) rfl
def mX7_layHeights : vMeth := (yX7_layHeights, cX7_layHeights, 6, none)
theorem co_X7_layHeights : Cond.code yX7_layHeights cX7_layHeights 6 none ∈ vtb := vtb_in 1015 (by decide +kernel) rfl
def mX7_tight : vMeth := (yX7_tight, cX7_tight, 8, (some .int))
theorem co_X7_tight : Cond.code yX7_tight cX7_tight 8 (some .int) ∈ vtb := vtb_in 1019 (by decide +kernel) rfl
def mX7_next : vMeth := (yX7_next, cX7_next, 3, (some .boolean))
theorem co_X7_next : Cond.code yX7_next cX7_next 3 (some .boolean) ∈ vtb := vtb_in 1023 (by decide +kernel) rfl
def mX7_tries : vMeth := (yX7_tries, cX7_tries, 1, (some .int))
theorem co_X7_tries : Cond.code yX7_tries cX7_tries 1 (some .int) ∈ vtb := vtb_in 1027 (by decide +kernel) rfl
def mX7_width : vMeth := (yX7_width, cX7_width, 2, (some .int))
theorem co_X7_width : Cond.code yX7_width cX7_width 2 (some .int) ∈ vtb := vtb_in 1031 (by decide +kernel) rfl
def mX7_height : vMeth := (yX7_height, cX7_height, 2, (some .int))
theorem co_X7_height : Cond.code yX7_height cX7_height 2 (some .int) ∈ vtb := vtb_in 1035 (by decide +kernel) rfl
def mX7_mayBreak : vMeth := (yX7_mayBreak, cX7_mayBreak, 2, (some .int))
theorem co_X7_mayBreak : Cond.code yX7_mayBreak cX7_mayBreak 2 (some .int) ∈ vtb := vtb_in 1039 (by decide +kernel) rfl
def mX7_mayBreakAt : vMeth := (yX7_mayBreakAt, cX7_mayBreakAt, 5, (some .boolean))
theorem co_X7_mayBreakAt : Cond.code yX7_mayBreakAt cX7_mayBreakAt 5 (some .boolean) ∈ vtb := vtb_in 1043 (by decide +kernel) rfl
def mX7_headRows : vMeth := (yX7_headRows, cX7_headRows, 6, (some .int))
theorem co_X7_headRows : Cond.code yX7_headRows cX7_headRows 6 (some .int) ∈ vtb := vtb_in 1047 (by decide +kernel) rfl
def mX7_pages : vMeth := (yX7_pages, cX7_pages, 11, (some .int))
theorem co_X7_pages : Cond.code yX7_pages cX7_pages 11 (some .int) ∈ vtb := vtb_in 1051 (by decide +kernel) rfl
def mX7_emptyOf : vMeth := (yX7_emptyOf, cX7_emptyOf, 8, (some .int))
theorem co_X7_emptyOf : Cond.code yX7_emptyOf cX7_emptyOf 8 (some .int) ∈ vtb := vtb_in 1055 (by decide +kernel) rfl
def mX7_notesOn : vMeth := (yX7_notesOn, cX7_notesOn, 7, (some .int))
theorem co_X7_notesOn : Cond.code yX7_notesOn cX7_notesOn 7 (some .int) ∈ vtb := vtb_in 1059 (by decide +kernel) rfl
def mX7_homeOf : vMeth := (yX7_homeOf, cX7_homeOf, 6, (some .int))
theorem co_X7_homeOf : Cond.code yX7_homeOf cX7_homeOf 6 (some .int) ∈ vtb := vtb_in 1063 (by decide +kernel) rfl
def mX7_page : vMeth := (yX7_page, cX7_page, 3, (some .int))
theorem co_X7_page : Cond.code yX7_page cX7_page 3 (some .int) ∈ vtb := vtb_in 1067 (by decide +kernel) rfl
def mX7_pageTold : vMeth := (yX7_pageTold, cX7_pageTold, 3, (some .int))
theorem co_X7_pageTold : Cond.code yX7_pageTold cX7_pageTold 3 (some .int) ∈ vtb := vtb_in 1071 (by decide +kernel) rfl
def mX7_pageOf : vMeth := (yX7_pageOf, cX7_pageOf, 2, (some .int))
theorem co_X7_pageOf : Cond.code yX7_pageOf cX7_pageOf 2 (some .int) ∈ vtb := vtb_in 1075 (by decide +kernel) rfl
def mX7_count : vMeth := (yX7_count, cX7_count, 4, (some .int))
theorem co_X7_count : Cond.code yX7_count cX7_count 4 (some .int) ∈ vtb := vtb_in 1079 (by decide +kernel) rfl
def mX7_digest : vMeth := (yX7_digest, cX7_digest, 5, (some .long))
theorem co_X7_digest : Cond.code yX7_digest cX7_digest 5 (some .long) ∈ vtb := vtb_in 1083 (by decide +kernel) rfl
def mX7_digestCell : vMeth := (yX7_digestCell, cX7_digestCell, 7, (some .long))
theorem co_X7_digestCell : Cond.code yX7_digestCell cX7_digestCell 7 (some .long) ∈ vtb := vtb_in 1089 (by decide +kernel) rfl
theorem se_yX6_isPlace : Cond.selects RX6 yX6_isPlace yX6_isPlace ∈ vtb := vtb_in 0 (by decide +kernel) rfl
theorem se_yX6_tell : Cond.selects RX6 yX6_tell yX6_tell ∈ vtb := vtb_in 1 (by decide +kernel) rfl
theorem se_yX0_forgetLines : Cond.selects RX0 yX0_forgetLines yX0_forgetLines ∈ vtb := vtb_in 2 (by decide +kernel) rfl
theorem se_yX0_countLines : Cond.selects RX0 yX0_countLines yX0_countLines ∈ vtb := vtb_in 3 (by decide +kernel) rfl
theorem se_yX0_longestPiece : Cond.selects RX0 yX0_longestPiece yX0_longestPiece ∈ vtb := vtb_in 4 (by decide +kernel) rfl
theorem se_yX5_measureFor : Cond.selects RX5 yX5_measureFor yX5_measureFor ∈ vtb := vtb_in 5 (by decide +kernel) rfl
theorem se_yX5_noteLack : Cond.selects RX5 yX5_noteLack yX5_noteLack ∈ vtb := vtb_in 6 (by decide +kernel) rfl
theorem se_yX4_giveOne : Cond.selects RX4 yX4_giveOne yX4_giveOne ∈ vtb := vtb_in 7 (by decide +kernel) rfl
theorem se_yX5_addTo : Cond.selects RX5 yX5_addTo yX5_addTo ∈ vtb := vtb_in 8 (by decide +kernel) rfl
theorem se_yX5_sumOf : Cond.selects RX5 yX5_sumOf yX5_sumOf ∈ vtb := vtb_in 9 (by decide +kernel) rfl
theorem se_yX6_heightOfTable : Cond.selects RX6 yX6_heightOfTable yX6_heightOfTable ∈ vtb := vtb_in 10 (by decide +kernel) rfl
theorem se_yX2_grow : Cond.selects RX2 yX2_grow yX2_grow ∈ vtb := vtb_in 11 (by decide +kernel) rfl
theorem se_yX2_noteLack : Cond.selects RX2 yX2_noteLack yX2_noteLack ∈ vtb := vtb_in 12 (by decide +kernel) rfl
theorem se_yX2_sum : Cond.selects RX2 yX2_sum yX2_sum ∈ vtb := vtb_in 13 (by decide +kernel) rfl
theorem se_yX5_addToLast : Cond.selects RX5 yX5_addToLast yX5_addToLast ∈ vtb := vtb_in 14 (by decide +kernel) rfl
theorem se_yX5_tryNext : Cond.selects RX5 yX5_tryNext yX5_tryNext ∈ vtb := vtb_in 15 (by decide +kernel) rfl
theorem se_yX1_hasHead : Cond.selects RX1 yX1_hasHead yX1_hasHead ∈ vtb := vtb_in 16 (by decide +kernel) rfl
theorem se_yX3_findHomes : Cond.selects RX3 yX3_findHomes yX3_findHomes ∈ vtb := vtb_in 17 (by decide +kernel) rfl
theorem se_yX3_planFrom : Cond.selects RX3 yX3_planFrom yX3_planFrom ∈ vtb := vtb_in 18 (by decide +kernel) rfl
theorem se_yX3_isAlone : Cond.selects RX3 yX3_isAlone yX3_isAlone ∈ vtb := vtb_in 19 (by decide +kernel) rfl
theorem se_yX3_weigh : Cond.selects RX3 yX3_weigh yX3_weigh ∈ vtb := vtb_in 20 (by decide +kernel) rfl
theorem se_yX3_layOut : Cond.selects RX3 yX3_layOut yX3_layOut ∈ vtb := vtb_in 21 (by decide +kernel) rfl
theorem se_yX7_begin : Cond.selects RX7 yX7_begin yX7_begin ∈ vtb := vtb_in 22 (by decide +kernel) rfl
theorem se_yX7_isColumn : Cond.selects RX7 yX7_isColumn yX7_isColumn ∈ vtb := vtb_in 23 (by decide +kernel) rfl
theorem se_yX7_isRow : Cond.selects RX7 yX7_isRow yX7_isRow ∈ vtb := vtb_in 24 (by decide +kernel) rfl
theorem se_yX7_meets : Cond.selects RX7 yX7_meets yX7_meets ∈ vtb := vtb_in 25 (by decide +kernel) rfl
theorem se_yX7_cellOn : Cond.selects RX7 yX7_cellOn yX7_cellOn ∈ vtb := vtb_in 26 (by decide +kernel) rfl
theorem se_yX7_liesOn : Cond.selects RX7 yX7_liesOn yX7_liesOn ∈ vtb := vtb_in 27 (by decide +kernel) rfl
theorem se_yX7_isCell : Cond.selects RX7 yX7_isCell yX7_isCell ∈ vtb := vtb_in 28 (by decide +kernel) rfl
theorem se_yX7_need : Cond.selects RX7 yX7_need yX7_need ∈ vtb := vtb_in 29 (by decide +kernel) rfl
theorem se_yX7_toldOf : Cond.selects RX7 yX7_toldOf yX7_toldOf ∈ vtb := vtb_in 30 (by decide +kernel) rfl
theorem se_yX7_lettersOf : Cond.selects RX7 yX7_lettersOf yX7_lettersOf ∈ vtb := vtb_in 31 (by decide +kernel) rfl
theorem se_yX7_linesOf : Cond.selects RX7 yX7_linesOf yX7_linesOf ∈ vtb := vtb_in 32 (by decide +kernel) rfl
theorem se_yX7_wantOf : Cond.selects RX7 yX7_wantOf yX7_wantOf ∈ vtb := vtb_in 33 (by decide +kernel) rfl
theorem se_yX7_layBoth : Cond.selects RX7 yX7_layBoth yX7_layBoth ∈ vtb := vtb_in 34 (by decide +kernel) rfl
theorem se_yX7_layWidths : Cond.selects RX7 yX7_layWidths yX7_layWidths ∈ vtb := vtb_in 35 (by decide +kernel) rfl
theorem se_yX7_widthOver : Cond.selects RX7 yX7_widthOver yX7_widthOver ∈ vtb := vtb_in 36 (by decide +kernel) rfl
theorem se_yX7_lacks : Cond.selects RX7 yX7_lacks yX7_lacks ∈ vtb := vtb_in 37 (by decide +kernel) rfl
theorem se_yX7_share : Cond.selects RX7 yX7_share yX7_share ∈ vtb := vtb_in 38 (by decide +kernel) rfl
theorem se_yX7_sumOf : Cond.selects RX7 yX7_sumOf yX7_sumOf ∈ vtb := vtb_in 39 (by decide +kernel) rfl
theorem se_yX7_heightBy : Cond.selects RX7 yX7_heightBy yX7_heightBy ∈ vtb := vtb_in 40 (by decide +kernel) rfl
theorem se_yX7_layHeights : Cond.selects RX7 yX7_layHeights yX7_layHeights ∈ vtb := vtb_in 41 (by decide +kernel) rfl
theorem se_yX7_next : Cond.selects RX7 yX7_next yX7_next ∈ vtb := vtb_in 42 (by decide +kernel) rfl
theorem se_yX7_mayBreakAt : Cond.selects RX7 yX7_mayBreakAt yX7_mayBreakAt ∈ vtb := vtb_in 43 (by decide +kernel) rfl
theorem se_yX7_headRows : Cond.selects RX7 yX7_headRows yX7_headRows ∈ vtb := vtb_in 44 (by decide +kernel) rfl
theorem se_yX7_emptyOf : Cond.selects RX7 yX7_emptyOf yX7_emptyOf ∈ vtb := vtb_in 45 (by decide +kernel) rfl
theorem se_yX7_notesOn : Cond.selects RX7 yX7_notesOn yX7_notesOn ∈ vtb := vtb_in 46 (by decide +kernel) rfl
theorem se_yX7_homeOf : Cond.selects RX7 yX7_homeOf yX7_homeOf ∈ vtb := vtb_in 47 (by decide +kernel) rfl
theorem se_yX7_pageTold : Cond.selects RX7 yX7_pageTold yX7_pageTold ∈ vtb := vtb_in 48 (by decide +kernel) rfl
theorem se_yX7_digestCell : Cond.selects RX7 yX7_digestCell yX7_digestCell ∈ vtb := vtb_in 49 (by decide +kernel) rfl
theorem in_TableSetterLaw : Cond.initialized RL ∈ vtb := vtb_in 50 (by decide +kernel) rfl
theorem in_TableSetter : Cond.initialized RX6 ∈ vtb := vtb_in 51 (by decide +kernel) rfl
theorem in_TableSetter_Grid : Cond.initialized RX1 ∈ vtb := vtb_in 52 (by decide +kernel) rfl
theorem in_TableSetter_Cell : Cond.initialized RX0 ∈ vtb := vtb_in 53 (by decide +kernel) rfl
theorem in_java_util_Arrays : Cond.initialized RJ7 ∈ vtb := vtb_in 54 (by decide +kernel) rfl
theorem in_TableSetter_Heights : Cond.initialized RX2 ∈ vtb := vtb_in 55 (by decide +kernel) rfl
theorem in_TableSetter_Widths : Cond.initialized RX5 ∈ vtb := vtb_in 56 (by decide +kernel) rfl
theorem in_TableSetter_Share : Cond.initialized RX4 ∈ vtb := vtb_in 57 (by decide +kernel) rfl
theorem in_TableSetter_Pager : Cond.initialized RX3 ∈ vtb := vtb_in 58 (by decide +kernel) rfl
theorem in_TableSetterModel : Cond.initialized RX7 ∈ vtb := vtb_in 59 (by decide +kernel) rfl
theorem in_java_lang_System : Cond.initialized "java/lang/System" ∈ vtb := vtb_in 60 (by decide +kernel) rfl
theorem in_java_lang_Math : Cond.initialized "java/lang/Math" ∈ vtb := vtb_in 61 (by decide +kernel) rfl
theorem cl_RL_7 : Cond.classLink RL 7 RX6 ∈ vtb := vtb_in 62 (by decide +kernel) rfl
theorem it_RX6 : Cond.instantiable RX6 8 ∈ vtb := vtb_in 63 (by decide +kernel) rfl
theorem ml_RL_9 : Cond.methodLink RL 9 yX6_init ∈ vtb := vtb_in 64 (by decide +kernel) rfl
theorem im_yX6_init : Cond.instanceMethod yX6_init ∈ vtb := vtb_in 65 (by decide +kernel) rfl
theorem ml_RX6_1 : Cond.methodLink RX6 1 objectInit ∈ vtb := vtb_in 67 (by decide +kernel) rfl
theorem im_objectInit : Cond.instanceMethod objectInit ∈ vtb := vtb_in 68 (by decide +kernel) rfl
theorem cl_RX6_7 : Cond.classLink RX6 7 RX1 ∈ vtb := vtb_in 70 (by decide +kernel) rfl
theorem it_RX1 : Cond.instantiable RX1 7 ∈ vtb := vtb_in 71 (by decide +kernel) rfl
theorem ml_RX6_9 : Cond.methodLink RX6 9 yX1_init ∈ vtb := vtb_in 72 (by decide +kernel) rfl
theorem im_yX1_init : Cond.instanceMethod yX1_init ∈ vtb := vtb_in 73 (by decide +kernel) rfl
theorem ml_RX1_3 : Cond.methodLink RX1 3 objectInit ∈ vtb := vtb_in 75 (by decide +kernel) rfl
theorem cl_RX1_18 : Cond.classLink RX1 18 RX0 ∈ vtb := vtb_in 76 (by decide +kernel) rfl
theorem it_RX0 : Cond.instantiable RX0 11 ∈ vtb := vtb_in 78 (by decide +kernel) rfl
theorem im_yX0_init : Cond.instanceMethod yX0_init ∈ vtb := vtb_in 80 (by decide +kernel) rfl
theorem ml_RX0_3 : Cond.methodLink RX0 3 objectInit ∈ vtb := vtb_in 82 (by decide +kernel) rfl
theorem fl_RX0_18 : Cond.fieldLink RX0 18 "TableSetter$Cell" "kind" "I" ∈ vtb := vtb_in 83 (by decide +kernel) rfl
theorem fl_RX1_70 : Cond.fieldLink RX1 70 "TableSetter$Cell" "kind" "I" ∈ vtb := vtb_in 84 (by decide +kernel) rfl
theorem fl_RX6_111 : Cond.fieldLink RX6 111 "TableSetter$Cell" "kind" "I" ∈ vtb := vtb_in 85 (by decide +kernel) rfl
theorem fl_RX0_22 : Cond.fieldLink RX0 22 "TableSetter$Cell" "row" "I" ∈ vtb := vtb_in 86 (by decide +kernel) rfl
theorem fl_RX2_73 : Cond.fieldLink RX2 73 "TableSetter$Cell" "row" "I" ∈ vtb := vtb_in 87 (by decide +kernel) rfl
theorem fl_RX1_79 : Cond.fieldLink RX1 79 "TableSetter$Cell" "row" "I" ∈ vtb := vtb_in 88 (by decide +kernel) rfl
theorem fl_RX0_25 : Cond.fieldLink RX0 25 "TableSetter$Cell" "column" "I" ∈ vtb := vtb_in 89 (by decide +kernel) rfl
theorem fl_RX5_98 : Cond.fieldLink RX5 98 "TableSetter$Cell" "column" "I" ∈ vtb := vtb_in 90 (by decide +kernel) rfl
theorem fl_RX1_82 : Cond.fieldLink RX1 82 "TableSetter$Cell" "column" "I" ∈ vtb := vtb_in 91 (by decide +kernel) rfl
theorem fl_RX0_28 : Cond.fieldLink RX0 28 "TableSetter$Cell" "rows" "I" ∈ vtb := vtb_in 92 (by decide +kernel) rfl
theorem fl_RX2_44 : Cond.fieldLink RX2 44 "TableSetter$Cell" "rows" "I" ∈ vtb := vtb_in 93 (by decide +kernel) rfl
theorem fl_RX0_31 : Cond.fieldLink RX0 31 "TableSetter$Cell" "cols" "I" ∈ vtb := vtb_in 94 (by decide +kernel) rfl
theorem fl_RX5_74 : Cond.fieldLink RX5 74 "TableSetter$Cell" "cols" "I" ∈ vtb := vtb_in 95 (by decide +kernel) rfl
theorem fl_RX1_85 : Cond.fieldLink RX1 85 "TableSetter$Cell" "cols" "I" ∈ vtb := vtb_in 96 (by decide +kernel) rfl
theorem fl_RX0_34 : Cond.fieldLink RX0 34 "TableSetter$Cell" "called" "I" ∈ vtb := vtb_in 97 (by decide +kernel) rfl
theorem fl_RX1_76 : Cond.fieldLink RX1 76 "TableSetter$Cell" "called" "I" ∈ vtb := vtb_in 98 (by decide +kernel) rfl
theorem fl_RX6_136 : Cond.fieldLink RX6 136 "TableSetter$Cell" "called" "I" ∈ vtb := vtb_in 99 (by decide +kernel) rfl
theorem fl_RX0_37 : Cond.fieldLink RX0 37 "TableSetter$Cell" "fixedWidth" "I" ∈ vtb := vtb_in 100 (by decide +kernel) rfl
theorem fl_RX6_139 : Cond.fieldLink RX6 139 "TableSetter$Cell" "fixedWidth" "I" ∈ vtb := vtb_in 101 (by decide +kernel) rfl
theorem fl_RX2_45 : Cond.fieldLink RX2 45 "TableSetter$Cell" "pieces" "I" ∈ vtb := vtb_in 102 (by decide +kernel) rfl
theorem fl_RX0_48 : Cond.fieldLink RX0 48 "TableSetter$Cell" "pieces" "I" ∈ vtb := vtb_in 103 (by decide +kernel) rfl
theorem fl_RX6_129 : Cond.fieldLink RX6 129 "TableSetter$Cell" "pieces" "I" ∈ vtb := vtb_in 104 (by decide +kernel) rfl
theorem fl_RX0_40 : Cond.fieldLink RX0 40 "TableSetter$Cell" "gone" "Z" ∈ vtb := vtb_in 105 (by decide +kernel) rfl
theorem fl_RX1_52 : Cond.fieldLink RX1 52 "TableSetter$Cell" "gone" "Z" ∈ vtb := vtb_in 106 (by decide +kernel) rfl
theorem fl_RX6_102 : Cond.fieldLink RX6 102 "TableSetter$Cell" "gone" "Z" ∈ vtb := vtb_in 107 (by decide +kernel) rfl
theorem fl_RX0_9 : Cond.fieldLink RX0 9 "TableSetter$Cell" "letters" "[I" ∈ vtb := vtb_in 108 (by decide +kernel) rfl
theorem fl_RX6_217 : Cond.fieldLink RX6 217 "TableSetter$Cell" "letters" "[I" ∈ vtb := vtb_in 109 (by decide +kernel) rfl
theorem fl_RX0_15 : Cond.fieldLink RX0 15 "TableSetter$Cell" "knownLines" "[I" ∈ vtb := vtb_in 110 (by decide +kernel) rfl
theorem ac_int : Cond.arrayClass .int ∈ vtb := vtb_in 134 (by decide +kernel) rfl
theorem ml_RX1_25 : Cond.methodLink RX1 25 yJ7_fill_53178 ∈ vtb := vtb_in 135 (by decide +kernel) rfl
theorem st_yJ7_fill_53178 : Cond.static yJ7_fill_53178 ∈ vtb := vtb_in 136 (by decide +kernel) rfl
theorem ml_RX1_31 : Cond.methodLink RX1 31 yX1_begin ∈ vtb := vtb_in 138 (by decide +kernel) rfl
theorem im_yX1_begin : Cond.instanceMethod yX1_begin ∈ vtb := vtb_in 139 (by decide +kernel) rfl
theorem se_yX1_begin : Cond.selects RX1 yX1_begin yX1_begin ∈ vtb := vtb_in 140 (by decide +kernel) rfl
theorem fl_RX1_35 : Cond.fieldLink RX1 35 "TableSetter$Grid" "rows" "I" ∈ vtb := vtb_in 142 (by decide +kernel) rfl
theorem fl_RX2_32 : Cond.fieldLink RX2 32 "TableSetter$Grid" "rows" "I" ∈ vtb := vtb_in 143 (by decide +kernel) rfl
theorem fl_RX3_53 : Cond.fieldLink RX3 53 "TableSetter$Grid" "rows" "I" ∈ vtb := vtb_in 144 (by decide +kernel) rfl
theorem fl_RX6_83 : Cond.fieldLink RX6 83 "TableSetter$Grid" "rows" "I" ∈ vtb := vtb_in 145 (by decide +kernel) rfl
theorem fl_RX1_39 : Cond.fieldLink RX1 39 "TableSetter$Grid" "columns" "I" ∈ vtb := vtb_in 146 (by decide +kernel) rfl
theorem fl_RX6_67 : Cond.fieldLink RX6 67 "TableSetter$Grid" "columns" "I" ∈ vtb := vtb_in 147 (by decide +kernel) rfl
theorem fl_RX5_61 : Cond.fieldLink RX5 61 "TableSetter$Grid" "columns" "I" ∈ vtb := vtb_in 148 (by decide +kernel) rfl
theorem fl_RX1_42 : Cond.fieldLink RX1 42 "TableSetter$Grid" "gap" "I" ∈ vtb := vtb_in 149 (by decide +kernel) rfl
theorem fl_RX6_203 : Cond.fieldLink RX6 203 "TableSetter$Grid" "gap" "I" ∈ vtb := vtb_in 150 (by decide +kernel) rfl
theorem fl_RX1_45 : Cond.fieldLink RX1 45 "TableSetter$Grid" "ever" "I" ∈ vtb := vtb_in 151 (by decide +kernel) rfl
theorem fl_RX2_37 : Cond.fieldLink RX2 37 "TableSetter$Grid" "ever" "I" ∈ vtb := vtb_in 152 (by decide +kernel) rfl
theorem fl_RX5_67 : Cond.fieldLink RX5 67 "TableSetter$Grid" "ever" "I" ∈ vtb := vtb_in 153 (by decide +kernel) rfl
theorem fl_RX6_80 : Cond.fieldLink RX6 80 "TableSetter$Grid" "ever" "I" ∈ vtb := vtb_in 154 (by decide +kernel) rfl
theorem fl_RX1_9 : Cond.fieldLink RX1 9 "TableSetter$Grid" "weights" "[I" ∈ vtb := vtb_in 155 (by decide +kernel) rfl
theorem fl_RX6_70 : Cond.fieldLink RX6 70 "TableSetter$Grid" "weights" "[I" ∈ vtb := vtb_in 156 (by decide +kernel) rfl
theorem fl_RX5_95 : Cond.fieldLink RX5 95 "TableSetter$Grid" "weights" "[I" ∈ vtb := vtb_in 157 (by decide +kernel) rfl
theorem fl_RX1_15 : Cond.fieldLink RX1 15 "TableSetter$Grid" "noteLines" "[I" ∈ vtb := vtb_in 158 (by decide +kernel) rfl
theorem fl_RX6_73 : Cond.fieldLink RX6 73 "TableSetter$Grid" "noteLines" "[I" ∈ vtb := vtb_in 159 (by decide +kernel) rfl
theorem fl_RX3_100 : Cond.fieldLink RX3 100 "TableSetter$Grid" "noteLines" "[I" ∈ vtb := vtb_in 160 (by decide +kernel) rfl
theorem fl_RX1_20 : Cond.fieldLink RX1 20 "TableSetter$Grid" "cells" "[LTableSetter$Cell;" ∈ vtb := vtb_in 161 (by decide +kernel) rfl
theorem cl_RX6_16 : Cond.classLink RX6 16 RX2 ∈ vtb := vtb_in 177 (by decide +kernel) rfl
theorem it_RX2 : Cond.instantiable RX2 5 ∈ vtb := vtb_in 178 (by decide +kernel) rfl
theorem ml_RX6_18 : Cond.methodLink RX6 18 yX2_init ∈ vtb := vtb_in 179 (by decide +kernel) rfl
theorem im_yX2_init : Cond.instanceMethod yX2_init ∈ vtb := vtb_in 180 (by decide +kernel) rfl
theorem ml_RX2_3 : Cond.methodLink RX2 3 objectInit ∈ vtb := vtb_in 182 (by decide +kernel) rfl
theorem cl_RX2_18 : Cond.classLink RX2 18 RX0 ∈ vtb := vtb_in 183 (by decide +kernel) rfl
theorem fl_RX2_9 : Cond.fieldLink RX2 9 "TableSetter$Heights" "now" "[I" ∈ vtb := vtb_in 184 (by decide +kernel) rfl
theorem fl_RX3_68 : Cond.fieldLink RX3 68 "TableSetter$Heights" "now" "[I" ∈ vtb := vtb_in 185 (by decide +kernel) rfl
theorem fl_RX6_176 : Cond.fieldLink RX6 176 "TableSetter$Heights" "now" "[I" ∈ vtb := vtb_in 186 (by decide +kernel) rfl
theorem fl_RX2_28 : Cond.fieldLink RX2 28 "TableSetter$Heights" "grid" "LTableSetter$Grid;" ∈ vtb := vtb_in 187 (by decide +kernel) rfl
theorem fl_RX2_15 : Cond.fieldLink RX2 15 "TableSetter$Heights" "growth" "[I" ∈ vtb := vtb_in 188 (by decide +kernel) rfl
theorem fl_RX2_20 : Cond.fieldLink RX2 20 "TableSetter$Heights" "order" "[LTableSetter$Cell;" ∈ vtb := vtb_in 189 (by decide +kernel) rfl
theorem fl_RX2_24 : Cond.fieldLink RX2 24 "TableSetter$Heights" "ordered" "I" ∈ vtb := vtb_in 190 (by decide +kernel) rfl
theorem cl_RX6_25 : Cond.classLink RX6 25 RX5 ∈ vtb := vtb_in 202 (by decide +kernel) rfl
theorem it_RX5 : Cond.instantiable RX5 9 ∈ vtb := vtb_in 203 (by decide +kernel) rfl
theorem ml_RX6_27 : Cond.methodLink RX6 27 yX5_init ∈ vtb := vtb_in 204 (by decide +kernel) rfl
theorem im_yX5_init : Cond.instanceMethod yX5_init ∈ vtb := vtb_in 205 (by decide +kernel) rfl
theorem ml_RX5_3 : Cond.methodLink RX5 3 objectInit ∈ vtb := vtb_in 207 (by decide +kernel) rfl
theorem cl_RX5_21 : Cond.classLink RX5 21 RX4 ∈ vtb := vtb_in 208 (by decide +kernel) rfl
theorem it_RX4 : Cond.instantiable RX4 2 ∈ vtb := vtb_in 209 (by decide +kernel) rfl
theorem im_yX4_init : Cond.instanceMethod yX4_init ∈ vtb := vtb_in 211 (by decide +kernel) rfl
theorem ml_RX4_3 : Cond.methodLink RX4 3 objectInit ∈ vtb := vtb_in 213 (by decide +kernel) rfl
theorem fl_RX4_9 : Cond.fieldLink RX4 9 "TableSetter$Share" "parts" "[I" ∈ vtb := vtb_in 214 (by decide +kernel) rfl
theorem fl_RX5_105 : Cond.fieldLink RX5 105 "TableSetter$Share" "parts" "[I" ∈ vtb := vtb_in 215 (by decide +kernel) rfl
theorem fl_RX4_15 : Cond.fieldLink RX4 15 "TableSetter$Share" "cutOff" "[I" ∈ vtb := vtb_in 216 (by decide +kernel) rfl
theorem fl_RX5_9 : Cond.fieldLink RX5 9 "TableSetter$Widths" "now" "[I" ∈ vtb := vtb_in 222 (by decide +kernel) rfl
theorem fl_RX6_173 : Cond.fieldLink RX6 173 "TableSetter$Widths" "now" "[I" ∈ vtb := vtb_in 223 (by decide +kernel) rfl
theorem fl_RX5_15 : Cond.fieldLink RX5 15 "TableSetter$Widths" "least" "[I" ∈ vtb := vtb_in 224 (by decide +kernel) rfl
theorem fl_RX6_151 : Cond.fieldLink RX6 151 "TableSetter$Widths" "least" "[I" ∈ vtb := vtb_in 225 (by decide +kernel) rfl
theorem fl_RX5_18 : Cond.fieldLink RX5 18 "TableSetter$Widths" "best" "[I" ∈ vtb := vtb_in 226 (by decide +kernel) rfl
theorem fl_RX6_154 : Cond.fieldLink RX6 154 "TableSetter$Widths" "best" "[I" ∈ vtb := vtb_in 227 (by decide +kernel) rfl
theorem fl_RX5_37 : Cond.fieldLink RX5 37 "TableSetter$Widths" "grid" "LTableSetter$Grid;" ∈ vtb := vtb_in 228 (by decide +kernel) rfl
theorem fl_RX5_41 : Cond.fieldLink RX5 41 "TableSetter$Widths" "heights" "LTableSetter$Heights;" ∈ vtb := vtb_in 229 (by decide +kernel) rfl
theorem fl_RX5_24 : Cond.fieldLink RX5 24 "TableSetter$Widths" "share" "LTableSetter$Share;" ∈ vtb := vtb_in 230 (by decide +kernel) rfl
theorem fl_RX5_28 : Cond.fieldLink RX5 28 "TableSetter$Widths" "growth" "[I" ∈ vtb := vtb_in 231 (by decide +kernel) rfl
theorem fl_RX5_31 : Cond.fieldLink RX5 31 "TableSetter$Widths" "more" "[I" ∈ vtb := vtb_in 232 (by decide +kernel) rfl
theorem fl_RX5_34 : Cond.fieldLink RX5 34 "TableSetter$Widths" "trial" "[I" ∈ vtb := vtb_in 233 (by decide +kernel) rfl
theorem cl_RX6_34 : Cond.classLink RX6 34 RX3 ∈ vtb := vtb_in 253 (by decide +kernel) rfl
theorem it_RX3 : Cond.instantiable RX3 12 ∈ vtb := vtb_in 254 (by decide +kernel) rfl
theorem ml_RX6_36 : Cond.methodLink RX6 36 yX3_init ∈ vtb := vtb_in 255 (by decide +kernel) rfl
theorem im_yX3_init : Cond.instanceMethod yX3_init ∈ vtb := vtb_in 256 (by decide +kernel) rfl
theorem ml_RX3_3 : Cond.methodLink RX3 3 objectInit ∈ vtb := vtb_in 258 (by decide +kernel) rfl
theorem cl_RX3_15 : Cond.classLink RX3 15 "[[I" ∈ vtb := vtb_in 259 (by decide +kernel) rfl
theorem fl_RX3_9 : Cond.fieldLink RX3 9 "TableSetter$Pager" "made" "I" ∈ vtb := vtb_in 261 (by decide +kernel) rfl
theorem fl_RX6_180 : Cond.fieldLink RX6 180 "TableSetter$Pager" "made" "I" ∈ vtb := vtb_in 262 (by decide +kernel) rfl
theorem fl_RX3_17 : Cond.fieldLink RX3 17 "TableSetter$Pager" "facts" "[[I" ∈ vtb := vtb_in 263 (by decide +kernel) rfl
theorem fl_RX6_183 : Cond.fieldLink RX6 183 "TableSetter$Pager" "facts" "[[I" ∈ vtb := vtb_in 264 (by decide +kernel) rfl
theorem fl_RX3_36 : Cond.fieldLink RX3 36 "TableSetter$Pager" "grid" "LTableSetter$Grid;" ∈ vtb := vtb_in 265 (by decide +kernel) rfl
theorem fl_RX3_40 : Cond.fieldLink RX3 40 "TableSetter$Pager" "heights" "LTableSetter$Heights;" ∈ vtb := vtb_in 266 (by decide +kernel) rfl
theorem fl_RX3_20 : Cond.fieldLink RX3 20 "TableSetter$Pager" "homeNotes" "[I" ∈ vtb := vtb_in 267 (by decide +kernel) rfl
theorem fl_RX3_24 : Cond.fieldLink RX3 24 "TableSetter$Pager" "homeLines" "[I" ∈ vtb := vtb_in 268 (by decide +kernel) rfl
theorem fl_RX3_27 : Cond.fieldLink RX3 27 "TableSetter$Pager" "fewest" "[I" ∈ vtb := vtb_in 269 (by decide +kernel) rfl
theorem fl_RX3_30 : Cond.fieldLink RX3 30 "TableSetter$Pager" "waste" "[I" ∈ vtb := vtb_in 270 (by decide +kernel) rfl
theorem fl_RX3_33 : Cond.fieldLink RX3 33 "TableSetter$Pager" "ends" "[I" ∈ vtb := vtb_in 271 (by decide +kernel) rfl
theorem fl_RX3_65 : Cond.fieldLink RX3 65 "TableSetter$Pager" "room" "I" ∈ vtb := vtb_in 272 (by decide +kernel) rfl
theorem fl_RX3_50 : Cond.fieldLink RX3 50 "TableSetter$Pager" "body" "I" ∈ vtb := vtb_in 273 (by decide +kernel) rfl
theorem fl_RX3_62 : Cond.fieldLink RX3 62 "TableSetter$Pager" "last" "I" ∈ vtb := vtb_in 274 (by decide +kernel) rfl
theorem fl_RX6_10 : Cond.fieldLink RX6 10 "TableSetter" "grid" "LTableSetter$Grid;" ∈ vtb := vtb_in 300 (by decide +kernel) rfl
theorem fl_RX6_21 : Cond.fieldLink RX6 21 "TableSetter" "heights" "LTableSetter$Heights;" ∈ vtb := vtb_in 301 (by decide +kernel) rfl
theorem fl_RX6_30 : Cond.fieldLink RX6 30 "TableSetter" "widths" "LTableSetter$Widths;" ∈ vtb := vtb_in 302 (by decide +kernel) rfl
theorem fl_RX6_37 : Cond.fieldLink RX6 37 "TableSetter" "pager" "LTableSetter$Pager;" ∈ vtb := vtb_in 303 (by decide +kernel) rfl
theorem fl_RX6_41 : Cond.fieldLink RX6 41 "TableSetter" "findingCounts" "[I" ∈ vtb := vtb_in 304 (by decide +kernel) rfl
theorem fl_RX6_45 : Cond.fieldLink RX6 45 "TableSetter" "latestFinding" "I" ∈ vtb := vtb_in 305 (by decide +kernel) rfl
theorem fl_RX6_49 : Cond.fieldLink RX6 49 "TableSetter" "latestClash" "I" ∈ vtb := vtb_in 306 (by decide +kernel) rfl
theorem fl_RX6_52 : Cond.fieldLink RX6 52 "TableSetter" "latestTries" "I" ∈ vtb := vtb_in 307 (by decide +kernel) rfl
theorem ml_RL_13 : Cond.methodLink RL 13 yX6_table ∈ vtb := vtb_in 325 (by decide +kernel) rfl
theorem im_yX6_table : Cond.instanceMethod yX6_table ∈ vtb := vtb_in 326 (by decide +kernel) rfl
theorem se_yX6_table : Cond.selects RX6 yX6_table yX6_table ∈ vtb := vtb_in 327 (by decide +kernel) rfl
theorem ml_RX6_55 : Cond.methodLink RX6 55 yX6_isWithin ∈ vtb := vtb_in 329 (by decide +kernel) rfl
theorem st_yX6_isWithin : Cond.static yX6_isWithin ∈ vtb := vtb_in 330 (by decide +kernel) rfl
theorem ml_RX6_59 : Cond.methodLink RX6 59 yX1_begin ∈ vtb := vtb_in 332 (by decide +kernel) rfl
theorem ml_RX6_63 : Cond.methodLink RX6 63 yX5_forget ∈ vtb := vtb_in 333 (by decide +kernel) rfl
theorem im_yX5_forget : Cond.instanceMethod yX5_forget ∈ vtb := vtb_in 334 (by decide +kernel) rfl
theorem se_yX5_forget : Cond.selects RX5 yX5_forget yX5_forget ∈ vtb := vtb_in 335 (by decide +kernel) rfl
theorem ml_RX5_45 : Cond.methodLink RX5 45 yJ7_fill_53178 ∈ vtb := vtb_in 337 (by decide +kernel) rfl
theorem ml_RX6_66 : Cond.methodLink RX6 66 yX3_forget ∈ vtb := vtb_in 338 (by decide +kernel) rfl
theorem im_yX3_forget : Cond.instanceMethod yX3_forget ∈ vtb := vtb_in 339 (by decide +kernel) rfl
theorem se_yX3_forget : Cond.selects RX3 yX3_forget yX3_forget ∈ vtb := vtb_in 340 (by decide +kernel) rfl
theorem ml_RL_18 : Cond.methodLink RL 18 yX6_weight ∈ vtb := vtb_in 342 (by decide +kernel) rfl
theorem im_yX6_weight : Cond.instanceMethod yX6_weight ∈ vtb := vtb_in 343 (by decide +kernel) rfl
theorem se_yX6_weight : Cond.selects RX6 yX6_weight yX6_weight ∈ vtb := vtb_in 344 (by decide +kernel) rfl
theorem ml_RL_23 : Cond.methodLink RL 23 yX6_note ∈ vtb := vtb_in 346 (by decide +kernel) rfl
theorem im_yX6_note : Cond.instanceMethod yX6_note ∈ vtb := vtb_in 347 (by decide +kernel) rfl
theorem se_yX6_note : Cond.selects RX6 yX6_note yX6_note ∈ vtb := vtb_in 348 (by decide +kernel) rfl
theorem ml_RL_27 : Cond.methodLink RL 27 yX6_cell ∈ vtb := vtb_in 350 (by decide +kernel) rfl
theorem im_yX6_cell : Cond.instanceMethod yX6_cell ∈ vtb := vtb_in 351 (by decide +kernel) rfl
theorem se_yX6_cell : Cond.selects RX6 yX6_cell yX6_cell ∈ vtb := vtb_in 352 (by decide +kernel) rfl
theorem ml_RX6_76 : Cond.methodLink RX6 76 yX6_isPlace ∈ vtb := vtb_in 354 (by decide +kernel) rfl
theorem im_yX6_isPlace : Cond.instanceMethod yX6_isPlace ∈ vtb := vtb_in 356 (by decide +kernel) rfl
theorem ml_RX6_86 : Cond.methodLink RX6 86 yX6_tell ∈ vtb := vtb_in 358 (by decide +kernel) rfl
theorem im_yX6_tell : Cond.instanceMethod yX6_tell ∈ vtb := vtb_in 360 (by decide +kernel) rfl
theorem ml_RX6_90 : Cond.methodLink RX6 90 yX1_firstOn ∈ vtb := vtb_in 362 (by decide +kernel) rfl
theorem im_yX1_firstOn : Cond.instanceMethod yX1_firstOn ∈ vtb := vtb_in 363 (by decide +kernel) rfl
theorem se_yX1_firstOn : Cond.selects RX1 yX1_firstOn yX1_firstOn ∈ vtb := vtb_in 364 (by decide +kernel) rfl
theorem ml_RX1_59 : Cond.methodLink RX1 59 yX1_present ∈ vtb := vtb_in 366 (by decide +kernel) rfl
theorem im_yX1_present : Cond.instanceMethod yX1_present ∈ vtb := vtb_in 367 (by decide +kernel) rfl
theorem se_yX1_present : Cond.selects RX1 yX1_present yX1_present ∈ vtb := vtb_in 368 (by decide +kernel) rfl
theorem ml_RX1_48 : Cond.methodLink RX1 48 yX1_numbered ∈ vtb := vtb_in 370 (by decide +kernel) rfl
theorem im_yX1_numbered : Cond.instanceMethod yX1_numbered ∈ vtb := vtb_in 371 (by decide +kernel) rfl
theorem se_yX1_numbered : Cond.selects RX1 yX1_numbered yX1_numbered ∈ vtb := vtb_in 372 (by decide +kernel) rfl
theorem ml_RX1_62 : Cond.methodLink RX1 62 yX0_meets ∈ vtb := vtb_in 374 (by decide +kernel) rfl
theorem im_yX0_meets : Cond.instanceMethod yX0_meets ∈ vtb := vtb_in 375 (by decide +kernel) rfl
theorem se_yX0_meets : Cond.selects RX0 yX0_meets yX0_meets ∈ vtb := vtb_in 376 (by decide +kernel) rfl
theorem ml_RX6_94 : Cond.methodLink RX6 94 yX1_add ∈ vtb := vtb_in 378 (by decide +kernel) rfl
theorem im_yX1_add : Cond.instanceMethod yX1_add ∈ vtb := vtb_in 379 (by decide +kernel) rfl
theorem se_yX1_add : Cond.selects RX1 yX1_add yX1_add ∈ vtb := vtb_in 380 (by decide +kernel) rfl
theorem ml_RX1_56 : Cond.methodLink RX1 56 yX0_begin ∈ vtb := vtb_in 382 (by decide +kernel) rfl
theorem im_yX0_begin : Cond.instanceMethod yX0_begin ∈ vtb := vtb_in 383 (by decide +kernel) rfl
theorem se_yX0_begin : Cond.selects RX0 yX0_begin yX0_begin ∈ vtb := vtb_in 384 (by decide +kernel) rfl
theorem ml_RX0_44 : Cond.methodLink RX0 44 yX0_fill ∈ vtb := vtb_in 386 (by decide +kernel) rfl
theorem im_yX0_fill : Cond.instanceMethod yX0_fill ∈ vtb := vtb_in 387 (by decide +kernel) rfl
theorem se_yX0_fill : Cond.selects RX0 yX0_fill yX0_fill ∈ vtb := vtb_in 388 (by decide +kernel) rfl
theorem ml_RX0_51 : Cond.methodLink RX0 51 yJ7_fill_53178 ∈ vtb := vtb_in 390 (by decide +kernel) rfl
theorem ml_RX0_56 : Cond.methodLink RX0 56 yX0_forgetLines ∈ vtb := vtb_in 391 (by decide +kernel) rfl
theorem im_yX0_forgetLines : Cond.instanceMethod yX0_forgetLines ∈ vtb := vtb_in 393 (by decide +kernel) rfl
theorem ml_RL_32 : Cond.methodLink RL 32 yX6_clash ∈ vtb := vtb_in 395 (by decide +kernel) rfl
theorem im_yX6_clash : Cond.instanceMethod yX6_clash ∈ vtb := vtb_in 396 (by decide +kernel) rfl
theorem se_yX6_clash : Cond.selects RX6 yX6_clash yX6_clash ∈ vtb := vtb_in 397 (by decide +kernel) rfl
theorem ml_RL_37 : Cond.methodLink RL 37 yX6_drop ∈ vtb := vtb_in 399 (by decide +kernel) rfl
theorem im_yX6_drop : Cond.instanceMethod yX6_drop ∈ vtb := vtb_in 400 (by decide +kernel) rfl
theorem se_yX6_drop : Cond.selects RX6 yX6_drop yX6_drop ∈ vtb := vtb_in 401 (by decide +kernel) rfl
theorem ml_RX6_98 : Cond.methodLink RX6 98 yX1_numbered ∈ vtb := vtb_in 403 (by decide +kernel) rfl
theorem ml_RL_42 : Cond.methodLink RL 42 yX6_told ∈ vtb := vtb_in 404 (by decide +kernel) rfl
theorem im_yX6_told : Cond.instanceMethod yX6_told ∈ vtb := vtb_in 405 (by decide +kernel) rfl
theorem se_yX6_told : Cond.selects RX6 yX6_told yX6_told ∈ vtb := vtb_in 406 (by decide +kernel) rfl
theorem ml_RX6_108 : Cond.methodLink RX6 108 yX0_fact ∈ vtb := vtb_in 408 (by decide +kernel) rfl
theorem im_yX0_fact : Cond.instanceMethod yX0_fact ∈ vtb := vtb_in 409 (by decide +kernel) rfl
theorem se_yX0_fact : Cond.selects RX0 yX0_fact yX0_fact ∈ vtb := vtb_in 410 (by decide +kernel) rfl
theorem ml_RL_46 : Cond.methodLink RL 46 yX6_is ∈ vtb := vtb_in 412 (by decide +kernel) rfl
theorem im_yX6_is : Cond.instanceMethod yX6_is ∈ vtb := vtb_in 413 (by decide +kernel) rfl
theorem se_yX6_is : Cond.selects RX6 yX6_is yX6_is ∈ vtb := vtb_in 414 (by decide +kernel) rfl
theorem ml_RL_50 : Cond.methodLink RL 50 yX6_on ∈ vtb := vtb_in 416 (by decide +kernel) rfl
theorem im_yX6_on : Cond.instanceMethod yX6_on ∈ vtb := vtb_in 417 (by decide +kernel) rfl
theorem se_yX6_on : Cond.selects RX6 yX6_on yX6_on ∈ vtb := vtb_in 418 (by decide +kernel) rfl
theorem ml_RL_54 : Cond.methodLink RL 54 yX6_words ∈ vtb := vtb_in 420 (by decide +kernel) rfl
theorem im_yX6_words : Cond.instanceMethod yX6_words ∈ vtb := vtb_in 421 (by decide +kernel) rfl
theorem se_yX6_words : Cond.selects RX6 yX6_words yX6_words ∈ vtb := vtb_in 422 (by decide +kernel) rfl
theorem ml_RX6_114 : Cond.methodLink RX6 114 yX0_fill ∈ vtb := vtb_in 424 (by decide +kernel) rfl
theorem ml_RL_58 : Cond.methodLink RL 58 yX6_word ∈ vtb := vtb_in 425 (by decide +kernel) rfl
theorem im_yX6_word : Cond.instanceMethod yX6_word ∈ vtb := vtb_in 426 (by decide +kernel) rfl
theorem se_yX6_word : Cond.selects RX6 yX6_word yX6_word ∈ vtb := vtb_in 427 (by decide +kernel) rfl
theorem ml_RX6_118 : Cond.methodLink RX6 118 yX0_holds ∈ vtb := vtb_in 429 (by decide +kernel) rfl
theorem im_yX0_holds : Cond.instanceMethod yX0_holds ∈ vtb := vtb_in 430 (by decide +kernel) rfl
theorem se_yX0_holds : Cond.selects RX0 yX0_holds yX0_holds ∈ vtb := vtb_in 431 (by decide +kernel) rfl
theorem ml_RX6_121 : Cond.methodLink RX6 121 yX0_exchange ∈ vtb := vtb_in 433 (by decide +kernel) rfl
theorem im_yX0_exchange : Cond.instanceMethod yX0_exchange ∈ vtb := vtb_in 434 (by decide +kernel) rfl
theorem se_yX0_exchange : Cond.selects RX0 yX0_exchange yX0_exchange ∈ vtb := vtb_in 435 (by decide +kernel) rfl
theorem ml_RL_62 : Cond.methodLink RL 62 yX6_copy ∈ vtb := vtb_in 437 (by decide +kernel) rfl
theorem im_yX6_copy : Cond.instanceMethod yX6_copy ∈ vtb := vtb_in 438 (by decide +kernel) rfl
theorem se_yX6_copy : Cond.selects RX6 yX6_copy yX6_copy ∈ vtb := vtb_in 439 (by decide +kernel) rfl
theorem ml_RX6_125 : Cond.methodLink RX6 125 yX0_take ∈ vtb := vtb_in 441 (by decide +kernel) rfl
theorem im_yX0_take : Cond.instanceMethod yX0_take ∈ vtb := vtb_in 442 (by decide +kernel) rfl
theorem se_yX0_take : Cond.selects RX0 yX0_take yX0_take ∈ vtb := vtb_in 443 (by decide +kernel) rfl
theorem ml_RX0_59 : Cond.methodLink RX0 59 yX0_holds ∈ vtb := vtb_in 445 (by decide +kernel) rfl
theorem ml_RX0_63 : Cond.methodLink RX0 63 arraycopyName ∈ vtb := vtb_in 446 (by decide +kernel) rfl
theorem st_arraycopyName : Cond.static arraycopyName ∈ vtb := vtb_in 447 (by decide +kernel) rfl
theorem na_arraycopyName : Cond.native arraycopyName ∈ vtb := vtb_in 448 (by decide +kernel) rfl
theorem ml_RL_66 : Cond.methodLink RL 66 yX6_mean ∈ vtb := vtb_in 449 (by decide +kernel) rfl
theorem im_yX6_mean : Cond.instanceMethod yX6_mean ∈ vtb := vtb_in 450 (by decide +kernel) rfl
theorem se_yX6_mean : Cond.selects RX6 yX6_mean yX6_mean ∈ vtb := vtb_in 451 (by decide +kernel) rfl
theorem ml_RX6_132 : Cond.methodLink RX6 132 yX0_allLetters ∈ vtb := vtb_in 453 (by decide +kernel) rfl
theorem im_yX0_allLetters : Cond.instanceMethod yX0_allLetters ∈ vtb := vtb_in 454 (by decide +kernel) rfl
theorem se_yX0_allLetters : Cond.selects RX0 yX0_allLetters yX0_allLetters ∈ vtb := vtb_in 455 (by decide +kernel) rfl
theorem ml_RL_70 : Cond.methodLink RL 70 yX6_calls ∈ vtb := vtb_in 457 (by decide +kernel) rfl
theorem im_yX6_calls : Cond.instanceMethod yX6_calls ∈ vtb := vtb_in 458 (by decide +kernel) rfl
theorem se_yX6_calls : Cond.selects RX6 yX6_calls yX6_calls ∈ vtb := vtb_in 459 (by decide +kernel) rfl
theorem ml_RL_74 : Cond.methodLink RL 74 yX6_fix ∈ vtb := vtb_in 461 (by decide +kernel) rfl
theorem im_yX6_fix : Cond.instanceMethod yX6_fix ∈ vtb := vtb_in 462 (by decide +kernel) rfl
theorem se_yX6_fix : Cond.selects RX6 yX6_fix yX6_fix ∈ vtb := vtb_in 463 (by decide +kernel) rfl
theorem ml_RL_78 : Cond.methodLink RL 78 yX6_lines ∈ vtb := vtb_in 465 (by decide +kernel) rfl
theorem im_yX6_lines : Cond.instanceMethod yX6_lines ∈ vtb := vtb_in 466 (by decide +kernel) rfl
theorem se_yX6_lines : Cond.selects RX6 yX6_lines yX6_lines ∈ vtb := vtb_in 467 (by decide +kernel) rfl
theorem ml_RX6_142 : Cond.methodLink RX6 142 yX0_linesIn ∈ vtb := vtb_in 469 (by decide +kernel) rfl
theorem im_yX0_linesIn : Cond.instanceMethod yX0_linesIn ∈ vtb := vtb_in 470 (by decide +kernel) rfl
theorem se_yX0_linesIn : Cond.selects RX0 yX0_linesIn yX0_linesIn ∈ vtb := vtb_in 471 (by decide +kernel) rfl
theorem ml_RX0_76 : Cond.methodLink RX0 76 Lib.Math.max.name ∈ vtb := vtb_in 473 (by decide +kernel) rfl
theorem st_Lib_Math_max_name : Cond.static Lib.Math.max.name ∈ vtb := vtb_in 474 (by decide +kernel) rfl
theorem ml_RX0_82 : Cond.methodLink RX0 82 yX0_countLines ∈ vtb := vtb_in 476 (by decide +kernel) rfl
theorem im_yX0_countLines : Cond.instanceMethod yX0_countLines ∈ vtb := vtb_in 478 (by decide +kernel) rfl
theorem ml_RL_82 : Cond.methodLink RL 82 yX6_want ∈ vtb := vtb_in 480 (by decide +kernel) rfl
theorem im_yX6_want : Cond.instanceMethod yX6_want ∈ vtb := vtb_in 481 (by decide +kernel) rfl
theorem se_yX6_want : Cond.selects RX6 yX6_want yX6_want ∈ vtb := vtb_in 482 (by decide +kernel) rfl
theorem ml_RX6_145 : Cond.methodLink RX6 145 yX0_wanted ∈ vtb := vtb_in 484 (by decide +kernel) rfl
theorem im_yX0_wanted : Cond.instanceMethod yX0_wanted ∈ vtb := vtb_in 485 (by decide +kernel) rfl
theorem se_yX0_wanted : Cond.selects RX0 yX0_wanted yX0_wanted ∈ vtb := vtb_in 486 (by decide +kernel) rfl
theorem ml_RX0_69 : Cond.methodLink RX0 69 yX0_longestPiece ∈ vtb := vtb_in 488 (by decide +kernel) rfl
theorem im_yX0_longestPiece : Cond.instanceMethod yX0_longestPiece ∈ vtb := vtb_in 490 (by decide +kernel) rfl
theorem ml_RX0_73 : Cond.methodLink RX0 73 yX0_allLetters ∈ vtb := vtb_in 492 (by decide +kernel) rfl
theorem ml_RL_86 : Cond.methodLink RL 86 yX6_natural ∈ vtb := vtb_in 493 (by decide +kernel) rfl
theorem im_yX6_natural : Cond.instanceMethod yX6_natural ∈ vtb := vtb_in 494 (by decide +kernel) rfl
theorem se_yX6_natural : Cond.selects RX6 yX6_natural yX6_natural ∈ vtb := vtb_in 495 (by decide +kernel) rfl
theorem ml_RX6_148 : Cond.methodLink RX6 148 yX5_measure ∈ vtb := vtb_in 497 (by decide +kernel) rfl
theorem im_yX5_measure : Cond.instanceMethod yX5_measure ∈ vtb := vtb_in 498 (by decide +kernel) rfl
theorem se_yX5_measure : Cond.selects RX5 yX5_measure yX5_measure ∈ vtb := vtb_in 499 (by decide +kernel) rfl
theorem ml_RX5_51 : Cond.methodLink RX5 51 yX5_measureFor ∈ vtb := vtb_in 501 (by decide +kernel) rfl
theorem im_yX5_measureFor : Cond.instanceMethod yX5_measureFor ∈ vtb := vtb_in 503 (by decide +kernel) rfl
theorem ml_RX5_70 : Cond.methodLink RX5 70 yX1_present ∈ vtb := vtb_in 505 (by decide +kernel) rfl
theorem ml_RX5_79 : Cond.methodLink RX5 79 yX0_wanted ∈ vtb := vtb_in 506 (by decide +kernel) rfl
theorem ml_RX5_83 : Cond.methodLink RX5 83 yX1_spanOf ∈ vtb := vtb_in 507 (by decide +kernel) rfl
theorem im_yX1_spanOf : Cond.instanceMethod yX1_spanOf ∈ vtb := vtb_in 508 (by decide +kernel) rfl
theorem se_yX1_spanOf : Cond.selects RX1 yX1_spanOf yX1_spanOf ∈ vtb := vtb_in 509 (by decide +kernel) rfl
theorem ml_RX1_88 : Cond.methodLink RX1 88 Lib.Math.min.name ∈ vtb := vtb_in 511 (by decide +kernel) rfl
theorem st_Lib_Math_min_name : Cond.static Lib.Math.min.name ∈ vtb := vtb_in 512 (by decide +kernel) rfl
theorem ml_RX5_87 : Cond.methodLink RX5 87 yX5_noteLack ∈ vtb := vtb_in 514 (by decide +kernel) rfl
theorem im_yX5_noteLack : Cond.instanceMethod yX5_noteLack ∈ vtb := vtb_in 516 (by decide +kernel) rfl
theorem ml_RX5_101 : Cond.methodLink RX5 101 yX4_divide ∈ vtb := vtb_in 518 (by decide +kernel) rfl
theorem im_yX4_divide : Cond.instanceMethod yX4_divide ∈ vtb := vtb_in 519 (by decide +kernel) rfl
theorem se_yX4_divide : Cond.selects RX4 yX4_divide yX4_divide ∈ vtb := vtb_in 520 (by decide +kernel) rfl
theorem ml_RX4_18 : Cond.methodLink RX4 18 yJ7_fill_53178 ∈ vtb := vtb_in 522 (by decide +kernel) rfl
theorem ml_RX4_24 : Cond.methodLink RX4 24 Lib.Math.min.name ∈ vtb := vtb_in 523 (by decide +kernel) rfl
theorem ml_RX4_30 : Cond.methodLink RX4 30 yX4_giveOne ∈ vtb := vtb_in 524 (by decide +kernel) rfl
theorem im_yX4_giveOne : Cond.instanceMethod yX4_giveOne ∈ vtb := vtb_in 526 (by decide +kernel) rfl
theorem ml_RX5_55 : Cond.methodLink RX5 55 Lib.Math.max.name ∈ vtb := vtb_in 528 (by decide +kernel) rfl
theorem ml_RX5_91 : Cond.methodLink RX5 91 yX5_addTo ∈ vtb := vtb_in 529 (by decide +kernel) rfl
theorem im_yX5_addTo : Cond.instanceMethod yX5_addTo ∈ vtb := vtb_in 531 (by decide +kernel) rfl
theorem ml_RL_90 : Cond.methodLink RL 90 yX6_set ∈ vtb := vtb_in 533 (by decide +kernel) rfl
theorem im_yX6_set : Cond.instanceMethod yX6_set ∈ vtb := vtb_in 534 (by decide +kernel) rfl
theorem se_yX6_set : Cond.selects RX6 yX6_set yX6_set ∈ vtb := vtb_in 535 (by decide +kernel) rfl
theorem ml_RX6_157 : Cond.methodLink RX6 157 yX5_spareOf ∈ vtb := vtb_in 537 (by decide +kernel) rfl
theorem im_yX5_spareOf : Cond.instanceMethod yX5_spareOf ∈ vtb := vtb_in 538 (by decide +kernel) rfl
theorem se_yX5_spareOf : Cond.selects RX5 yX5_spareOf yX5_spareOf ∈ vtb := vtb_in 539 (by decide +kernel) rfl
theorem ml_RX5_108 : Cond.methodLink RX5 108 yX1_gaps ∈ vtb := vtb_in 541 (by decide +kernel) rfl
theorem im_yX1_gaps : Cond.instanceMethod yX1_gaps ∈ vtb := vtb_in 542 (by decide +kernel) rfl
theorem se_yX1_gaps : Cond.selects RX1 yX1_gaps yX1_gaps ∈ vtb := vtb_in 543 (by decide +kernel) rfl
theorem ml_RX5_112 : Cond.methodLink RX5 112 yX5_sumOf ∈ vtb := vtb_in 545 (by decide +kernel) rfl
theorem im_yX5_sumOf : Cond.instanceMethod yX5_sumOf ∈ vtb := vtb_in 547 (by decide +kernel) rfl
theorem ml_RX6_160 : Cond.methodLink RX6 160 yX5_spread ∈ vtb := vtb_in 549 (by decide +kernel) rfl
theorem im_yX5_spread : Cond.instanceMethod yX5_spread ∈ vtb := vtb_in 550 (by decide +kernel) rfl
theorem se_yX5_spread : Cond.selects RX5 yX5_spread yX5_spread ∈ vtb := vtb_in 551 (by decide +kernel) rfl
theorem ml_RX5_116 : Cond.methodLink RX5 116 arraycopyName ∈ vtb := vtb_in 553 (by decide +kernel) rfl
theorem ml_RX6_163 : Cond.methodLink RX6 163 yX6_heightOfTable ∈ vtb := vtb_in 554 (by decide +kernel) rfl
theorem im_yX6_heightOfTable : Cond.instanceMethod yX6_heightOfTable ∈ vtb := vtb_in 556 (by decide +kernel) rfl
theorem ml_RX6_220 : Cond.methodLink RX6 220 yX2_sortCells ∈ vtb := vtb_in 558 (by decide +kernel) rfl
theorem im_yX2_sortCells : Cond.instanceMethod yX2_sortCells ∈ vtb := vtb_in 559 (by decide +kernel) rfl
theorem se_yX2_sortCells : Cond.selects RX2 yX2_sortCells yX2_sortCells ∈ vtb := vtb_in 560 (by decide +kernel) rfl
theorem ml_RX2_40 : Cond.methodLink RX2 40 yX1_present ∈ vtb := vtb_in 562 (by decide +kernel) rfl
theorem ml_RX6_223 : Cond.methodLink RX6 223 yX2_measure ∈ vtb := vtb_in 563 (by decide +kernel) rfl
theorem im_yX2_measure : Cond.instanceMethod yX2_measure ∈ vtb := vtb_in 564 (by decide +kernel) rfl
theorem se_yX2_measure : Cond.selects RX2 yX2_measure yX2_measure ∈ vtb := vtb_in 565 (by decide +kernel) rfl
theorem ml_RX2_48 : Cond.methodLink RX2 48 yJ7_fill_53178 ∈ vtb := vtb_in 567 (by decide +kernel) rfl
theorem ml_RX2_54 : Cond.methodLink RX2 54 yX2_grow ∈ vtb := vtb_in 568 (by decide +kernel) rfl
theorem im_yX2_grow : Cond.instanceMethod yX2_grow ∈ vtb := vtb_in 570 (by decide +kernel) rfl
theorem ml_RX2_57 : Cond.methodLink RX2 57 yX1_spanOf ∈ vtb := vtb_in 572 (by decide +kernel) rfl
theorem ml_RX2_61 : Cond.methodLink RX2 61 yX0_linesIn ∈ vtb := vtb_in 573 (by decide +kernel) rfl
theorem ml_RX2_65 : Cond.methodLink RX2 65 yX2_noteLack ∈ vtb := vtb_in 574 (by decide +kernel) rfl
theorem im_yX2_noteLack : Cond.instanceMethod yX2_noteLack ∈ vtb := vtb_in 576 (by decide +kernel) rfl
theorem ml_RX2_76 : Cond.methodLink RX2 76 Lib.Math.min.name ∈ vtb := vtb_in 578 (by decide +kernel) rfl
theorem ml_RX2_82 : Cond.methodLink RX2 82 Lib.Math.max.name ∈ vtb := vtb_in 579 (by decide +kernel) rfl
theorem ml_RX2_69 : Cond.methodLink RX2 69 yX2_sum ∈ vtb := vtb_in 580 (by decide +kernel) rfl
theorem im_yX2_sum : Cond.instanceMethod yX2_sum ∈ vtb := vtb_in 582 (by decide +kernel) rfl
theorem ml_RL_94 : Cond.methodLink RL 94 yX6_tight ∈ vtb := vtb_in 584 (by decide +kernel) rfl
theorem im_yX6_tight : Cond.instanceMethod yX6_tight ∈ vtb := vtb_in 585 (by decide +kernel) rfl
theorem se_yX6_tight : Cond.selects RX6 yX6_tight yX6_tight ∈ vtb := vtb_in 586 (by decide +kernel) rfl
theorem ml_RX6_166 : Cond.methodLink RX6 166 yX5_waysToSpread ∈ vtb := vtb_in 588 (by decide +kernel) rfl
theorem im_yX5_waysToSpread : Cond.instanceMethod yX5_waysToSpread ∈ vtb := vtb_in 589 (by decide +kernel) rfl
theorem se_yX5_waysToSpread : Cond.selects RX5 yX5_waysToSpread yX5_waysToSpread ∈ vtb := vtb_in 590 (by decide +kernel) rfl
theorem ml_RX6_170 : Cond.methodLink RX6 170 yX5_tighten ∈ vtb := vtb_in 592 (by decide +kernel) rfl
theorem im_yX5_tighten : Cond.instanceMethod yX5_tighten ∈ vtb := vtb_in 593 (by decide +kernel) rfl
theorem se_yX5_tighten : Cond.selects RX5 yX5_tighten yX5_tighten ∈ vtb := vtb_in 594 (by decide +kernel) rfl
theorem ml_RX5_122 : Cond.methodLink RX5 122 yX5_addToLast ∈ vtb := vtb_in 596 (by decide +kernel) rfl
theorem im_yX5_addToLast : Cond.instanceMethod yX5_addToLast ∈ vtb := vtb_in 598 (by decide +kernel) rfl
theorem ml_RX5_126 : Cond.methodLink RX5 126 yX2_sortCells ∈ vtb := vtb_in 600 (by decide +kernel) rfl
theorem ml_RX5_131 : Cond.methodLink RX5 131 yX2_measure ∈ vtb := vtb_in 601 (by decide +kernel) rfl
theorem ml_RX5_134 : Cond.methodLink RX5 134 yX5_tryNext ∈ vtb := vtb_in 602 (by decide +kernel) rfl
theorem im_yX5_tryNext : Cond.instanceMethod yX5_tryNext ∈ vtb := vtb_in 604 (by decide +kernel) rfl
theorem ml_RX5_137 : Cond.methodLink RX5 137 Lib.Math.min.name ∈ vtb := vtb_in 606 (by decide +kernel) rfl
theorem ml_RL_98 : Cond.methodLink RL 98 yX6_tries ∈ vtb := vtb_in 607 (by decide +kernel) rfl
theorem im_yX6_tries : Cond.instanceMethod yX6_tries ∈ vtb := vtb_in 608 (by decide +kernel) rfl
theorem se_yX6_tries : Cond.selects RX6 yX6_tries yX6_tries ∈ vtb := vtb_in 609 (by decide +kernel) rfl
theorem ml_RL_102 : Cond.methodLink RL 102 yX6_width ∈ vtb := vtb_in 611 (by decide +kernel) rfl
theorem im_yX6_width : Cond.instanceMethod yX6_width ∈ vtb := vtb_in 612 (by decide +kernel) rfl
theorem se_yX6_width : Cond.selects RX6 yX6_width yX6_width ∈ vtb := vtb_in 613 (by decide +kernel) rfl
theorem ml_RL_106 : Cond.methodLink RL 106 yX6_height ∈ vtb := vtb_in 615 (by decide +kernel) rfl
theorem im_yX6_height : Cond.instanceMethod yX6_height ∈ vtb := vtb_in 616 (by decide +kernel) rfl
theorem se_yX6_height : Cond.selects RX6 yX6_height yX6_height ∈ vtb := vtb_in 617 (by decide +kernel) rfl
theorem ml_RL_110 : Cond.methodLink RL 110 yX6_pages ∈ vtb := vtb_in 619 (by decide +kernel) rfl
theorem im_yX6_pages : Cond.instanceMethod yX6_pages ∈ vtb := vtb_in 620 (by decide +kernel) rfl
theorem se_yX6_pages : Cond.selects RX6 yX6_pages yX6_pages ∈ vtb := vtb_in 621 (by decide +kernel) rfl
theorem ml_RX6_177 : Cond.methodLink RX6 177 yX3_make ∈ vtb := vtb_in 623 (by decide +kernel) rfl
theorem im_yX3_make : Cond.instanceMethod yX3_make ∈ vtb := vtb_in 624 (by decide +kernel) rfl
theorem se_yX3_make : Cond.selects RX3 yX3_make yX3_make ∈ vtb := vtb_in 625 (by decide +kernel) rfl
theorem ml_RX3_44 : Cond.methodLink RX3 44 yX1_headRows ∈ vtb := vtb_in 627 (by decide +kernel) rfl
theorem im_yX1_headRows : Cond.instanceMethod yX1_headRows ∈ vtb := vtb_in 628 (by decide +kernel) rfl
theorem se_yX1_headRows : Cond.selects RX1 yX1_headRows yX1_headRows ∈ vtb := vtb_in 629 (by decide +kernel) rfl
theorem ml_RX1_66 : Cond.methodLink RX1 66 yX1_hasHead ∈ vtb := vtb_in 631 (by decide +kernel) rfl
theorem im_yX1_hasHead : Cond.instanceMethod yX1_hasHead ∈ vtb := vtb_in 633 (by decide +kernel) rfl
theorem ml_RX1_73 : Cond.methodLink RX1 73 yX0_liesOnRow ∈ vtb := vtb_in 635 (by decide +kernel) rfl
theorem im_yX0_liesOnRow : Cond.instanceMethod yX0_liesOnRow ∈ vtb := vtb_in 636 (by decide +kernel) rfl
theorem se_yX0_liesOnRow : Cond.selects RX0 yX0_liesOnRow yX0_liesOnRow ∈ vtb := vtb_in 637 (by decide +kernel) rfl
theorem ml_RX3_56 : Cond.methodLink RX3 56 Lib.Math.min.name ∈ vtb := vtb_in 639 (by decide +kernel) rfl
theorem ml_RX3_73 : Cond.methodLink RX3 73 yX3_findHomes ∈ vtb := vtb_in 640 (by decide +kernel) rfl
theorem im_yX3_findHomes : Cond.instanceMethod yX3_findHomes ∈ vtb := vtb_in 642 (by decide +kernel) rfl
theorem ml_RX3_76 : Cond.methodLink RX3 76 yJ7_fill_53178 ∈ vtb := vtb_in 644 (by decide +kernel) rfl
theorem ml_RX3_93 : Cond.methodLink RX3 93 yX1_firstCall ∈ vtb := vtb_in 645 (by decide +kernel) rfl
theorem im_yX1_firstCall : Cond.instanceMethod yX1_firstCall ∈ vtb := vtb_in 646 (by decide +kernel) rfl
theorem se_yX1_firstCall : Cond.selects RX1 yX1_firstCall yX1_firstCall ∈ vtb := vtb_in 647 (by decide +kernel) rfl
theorem ml_RX3_97 : Cond.methodLink RX3 97 Lib.Math.max.name ∈ vtb := vtb_in 649 (by decide +kernel) rfl
theorem ml_RX3_82 : Cond.methodLink RX3 82 yX1_breaksAhead ∈ vtb := vtb_in 650 (by decide +kernel) rfl
theorem im_yX1_breaksAhead : Cond.instanceMethod yX1_breaksAhead ∈ vtb := vtb_in 651 (by decide +kernel) rfl
theorem se_yX1_breaksAhead : Cond.selects RX1 yX1_breaksAhead yX1_breaksAhead ∈ vtb := vtb_in 652 (by decide +kernel) rfl
theorem ml_RX3_86 : Cond.methodLink RX3 86 yX3_planFrom ∈ vtb := vtb_in 654 (by decide +kernel) rfl
theorem im_yX3_planFrom : Cond.instanceMethod yX3_planFrom ∈ vtb := vtb_in 656 (by decide +kernel) rfl
theorem ml_RX3_103 : Cond.methodLink RX3 103 yX3_isAlone ∈ vtb := vtb_in 658 (by decide +kernel) rfl
theorem im_yX3_isAlone : Cond.instanceMethod yX3_isAlone ∈ vtb := vtb_in 660 (by decide +kernel) rfl
theorem ml_RX3_106 : Cond.methodLink RX3 106 yX3_weigh ∈ vtb := vtb_in 662 (by decide +kernel) rfl
theorem im_yX3_weigh : Cond.instanceMethod yX3_weigh ∈ vtb := vtb_in 664 (by decide +kernel) rfl
theorem ml_RX3_90 : Cond.methodLink RX3 90 yX3_layOut ∈ vtb := vtb_in 666 (by decide +kernel) rfl
theorem im_yX3_layOut : Cond.instanceMethod yX3_layOut ∈ vtb := vtb_in 668 (by decide +kernel) rfl
theorem ml_RL_114 : Cond.methodLink RL 114 yX6_page ∈ vtb := vtb_in 670 (by decide +kernel) rfl
theorem im_yX6_page : Cond.instanceMethod yX6_page ∈ vtb := vtb_in 671 (by decide +kernel) rfl
theorem se_yX6_page : Cond.selects RX6 yX6_page yX6_page ∈ vtb := vtb_in 672 (by decide +kernel) rfl
theorem ml_RL_118 : Cond.methodLink RL 118 yX6_pageOf ∈ vtb := vtb_in 674 (by decide +kernel) rfl
theorem im_yX6_pageOf : Cond.instanceMethod yX6_pageOf ∈ vtb := vtb_in 675 (by decide +kernel) rfl
theorem se_yX6_pageOf : Cond.selects RX6 yX6_pageOf yX6_pageOf ∈ vtb := vtb_in 676 (by decide +kernel) rfl
theorem ml_RX6_187 : Cond.methodLink RX6 187 yX3_holding ∈ vtb := vtb_in 678 (by decide +kernel) rfl
theorem im_yX3_holding : Cond.instanceMethod yX3_holding ∈ vtb := vtb_in 679 (by decide +kernel) rfl
theorem se_yX3_holding : Cond.selects RX3 yX3_holding yX3_holding ∈ vtb := vtb_in 680 (by decide +kernel) rfl
theorem ml_RL_122 : Cond.methodLink RL 122 yX6_mayBreak ∈ vtb := vtb_in 682 (by decide +kernel) rfl
theorem im_yX6_mayBreak : Cond.instanceMethod yX6_mayBreak ∈ vtb := vtb_in 683 (by decide +kernel) rfl
theorem se_yX6_mayBreak : Cond.selects RX6 yX6_mayBreak yX6_mayBreak ∈ vtb := vtb_in 684 (by decide +kernel) rfl
theorem ml_RX6_190 : Cond.methodLink RX6 190 yX1_headRows ∈ vtb := vtb_in 686 (by decide +kernel) rfl
theorem ml_RX6_193 : Cond.methodLink RX6 193 yX1_breaksAhead ∈ vtb := vtb_in 687 (by decide +kernel) rfl
theorem ml_RL_126 : Cond.methodLink RL 126 yX6_count ∈ vtb := vtb_in 688 (by decide +kernel) rfl
theorem im_yX6_count : Cond.instanceMethod yX6_count ∈ vtb := vtb_in 689 (by decide +kernel) rfl
theorem se_yX6_count : Cond.selects RX6 yX6_count yX6_count ∈ vtb := vtb_in 690 (by decide +kernel) rfl
theorem ml_RX6_196 : Cond.methodLink RX6 196 yX1_presentCells ∈ vtb := vtb_in 692 (by decide +kernel) rfl
theorem im_yX1_presentCells : Cond.instanceMethod yX1_presentCells ∈ vtb := vtb_in 693 (by decide +kernel) rfl
theorem se_yX1_presentCells : Cond.selects RX1 yX1_presentCells yX1_presentCells ∈ vtb := vtb_in 694 (by decide +kernel) rfl
theorem ml_RL_130 : Cond.methodLink RL 130 yX6_finding ∈ vtb := vtb_in 696 (by decide +kernel) rfl
theorem im_yX6_finding : Cond.instanceMethod yX6_finding ∈ vtb := vtb_in 697 (by decide +kernel) rfl
theorem se_yX6_finding : Cond.selects RX6 yX6_finding yX6_finding ∈ vtb := vtb_in 698 (by decide +kernel) rfl
theorem ml_RL_134 : Cond.methodLink RL 134 yX6_findings ∈ vtb := vtb_in 700 (by decide +kernel) rfl
theorem im_yX6_findings : Cond.instanceMethod yX6_findings ∈ vtb := vtb_in 701 (by decide +kernel) rfl
theorem se_yX6_findings : Cond.selects RX6 yX6_findings yX6_findings ∈ vtb := vtb_in 702 (by decide +kernel) rfl
theorem ml_RL_138 : Cond.methodLink RL 138 yX6_digest ∈ vtb := vtb_in 704 (by decide +kernel) rfl
theorem im_yX6_digest : Cond.instanceMethod yX6_digest ∈ vtb := vtb_in 705 (by decide +kernel) rfl
theorem se_yX6_digest : Cond.selects RX6 yX6_digest yX6_digest ∈ vtb := vtb_in 706 (by decide +kernel) rfl
theorem kl_RX6_199 : Cond.constantLong RX6 199 (17) ∈ vtb := vtb_in 708 (by decide +kernel) rfl
theorem kl_RX6_201 : Cond.constantLong RX6 201 (31) ∈ vtb := vtb_in 709 (by decide +kernel) rfl
theorem ml_RX6_206 : Cond.methodLink RX6 206 yX6_mixed ∈ vtb := vtb_in 710 (by decide +kernel) rfl
theorem st_yX6_mixed : Cond.static yX6_mixed ∈ vtb := vtb_in 711 (by decide +kernel) rfl
theorem ml_RX6_210 : Cond.methodLink RX6 210 yX1_present ∈ vtb := vtb_in 713 (by decide +kernel) rfl
theorem ml_RX6_213 : Cond.methodLink RX6 213 yX6_mixedCell ∈ vtb := vtb_in 714 (by decide +kernel) rfl
theorem st_yX6_mixedCell : Cond.static yX6_mixedCell ∈ vtb := vtb_in 715 (by decide +kernel) rfl
theorem cl_RL_10 : Cond.classLink RL 10 RX7 ∈ vtb := vtb_in 717 (by decide +kernel) rfl
theorem it_RX7 : Cond.instantiable RX7 41 ∈ vtb := vtb_in 718 (by decide +kernel) rfl
theorem ml_RL_12 : Cond.methodLink RL 12 yX7_init ∈ vtb := vtb_in 719 (by decide +kernel) rfl
theorem im_yX7_init : Cond.instanceMethod yX7_init ∈ vtb := vtb_in 720 (by decide +kernel) rfl
theorem ml_RX7_1 : Cond.methodLink RX7 1 objectInit ∈ vtb := vtb_in 722 (by decide +kernel) rfl
theorem ml_RX7_111 : Cond.methodLink RX7 111 yX7_begin ∈ vtb := vtb_in 723 (by decide +kernel) rfl
theorem im_yX7_begin : Cond.instanceMethod yX7_begin ∈ vtb := vtb_in 725 (by decide +kernel) rfl
theorem fl_RX7_115 : Cond.fieldLink RX7 115 "TableSetterModel" "latest" "I" ∈ vtb := vtb_in 727 (by decide +kernel) rfl
theorem fl_RX7_7 : Cond.fieldLink RX7 7 "TableSetterModel" "came" "[I" ∈ vtb := vtb_in 728 (by decide +kernel) rfl
theorem fl_RX7_123 : Cond.fieldLink RX7 123 "TableSetterModel" "rows" "I" ∈ vtb := vtb_in 729 (by decide +kernel) rfl
theorem fl_RX7_126 : Cond.fieldLink RX7 126 "TableSetterModel" "columns" "I" ∈ vtb := vtb_in 730 (by decide +kernel) rfl
theorem fl_RX7_129 : Cond.fieldLink RX7 129 "TableSetterModel" "gap" "I" ∈ vtb := vtb_in 731 (by decide +kernel) rfl
theorem fl_RX7_13 : Cond.fieldLink RX7 13 "TableSetterModel" "weights" "[I" ∈ vtb := vtb_in 732 (by decide +kernel) rfl
theorem fl_RX7_16 : Cond.fieldLink RX7 16 "TableSetterModel" "noteLines" "[I" ∈ vtb := vtb_in 733 (by decide +kernel) rfl
theorem fl_RX7_132 : Cond.fieldLink RX7 132 "TableSetterModel" "cells" "I" ∈ vtb := vtb_in 734 (by decide +kernel) rfl
theorem fl_RX7_19 : Cond.fieldLink RX7 19 "TableSetterModel" "kindOf" "[I" ∈ vtb := vtb_in 735 (by decide +kernel) rfl
theorem fl_RX7_22 : Cond.fieldLink RX7 22 "TableSetterModel" "rowOf" "[I" ∈ vtb := vtb_in 736 (by decide +kernel) rfl
theorem fl_RX7_25 : Cond.fieldLink RX7 25 "TableSetterModel" "columnOf" "[I" ∈ vtb := vtb_in 737 (by decide +kernel) rfl
theorem fl_RX7_28 : Cond.fieldLink RX7 28 "TableSetterModel" "rowMany" "[I" ∈ vtb := vtb_in 738 (by decide +kernel) rfl
theorem fl_RX7_31 : Cond.fieldLink RX7 31 "TableSetterModel" "columnMany" "[I" ∈ vtb := vtb_in 739 (by decide +kernel) rfl
theorem fl_RX7_34 : Cond.fieldLink RX7 34 "TableSetterModel" "isGone" "[Z" ∈ vtb := vtb_in 740 (by decide +kernel) rfl
theorem fl_RX7_38 : Cond.fieldLink RX7 38 "TableSetterModel" "wordMany" "[I" ∈ vtb := vtb_in 741 (by decide +kernel) rfl
theorem fl_RX7_41 : Cond.fieldLink RX7 41 "TableSetterModel" "letters" "[I" ∈ vtb := vtb_in 742 (by decide +kernel) rfl
theorem fl_RX7_44 : Cond.fieldLink RX7 44 "TableSetterModel" "called" "[I" ∈ vtb := vtb_in 743 (by decide +kernel) rfl
theorem fl_RX7_47 : Cond.fieldLink RX7 47 "TableSetterModel" "fixed" "[I" ∈ vtb := vtb_in 744 (by decide +kernel) rfl
theorem fl_RX7_135 : Cond.fieldLink RX7 135 "TableSetterModel" "clash" "I" ∈ vtb := vtb_in 745 (by decide +kernel) rfl
theorem fl_RX7_50 : Cond.fieldLink RX7 50 "TableSetterModel" "copied" "[I" ∈ vtb := vtb_in 746 (by decide +kernel) rfl
theorem fl_RX7_53 : Cond.fieldLink RX7 53 "TableSetterModel" "numbers" "[I" ∈ vtb := vtb_in 747 (by decide +kernel) rfl
theorem fl_RX7_56 : Cond.fieldLink RX7 56 "TableSetterModel" "shares" "[I" ∈ vtb := vtb_in 748 (by decide +kernel) rfl
theorem fl_RX7_59 : Cond.fieldLink RX7 59 "TableSetterModel" "rests" "[I" ∈ vtb := vtb_in 749 (by decide +kernel) rfl
theorem fl_RX7_62 : Cond.fieldLink RX7 62 "TableSetterModel" "widths" "[I" ∈ vtb := vtb_in 750 (by decide +kernel) rfl
theorem fl_RX7_65 : Cond.fieldLink RX7 65 "TableSetterModel" "least" "[I" ∈ vtb := vtb_in 751 (by decide +kernel) rfl
theorem fl_RX7_68 : Cond.fieldLink RX7 68 "TableSetterModel" "best" "[I" ∈ vtb := vtb_in 752 (by decide +kernel) rfl
theorem fl_RX7_71 : Cond.fieldLink RX7 71 "TableSetterModel" "grows" "[I" ∈ vtb := vtb_in 753 (by decide +kernel) rfl
theorem fl_RX7_74 : Cond.fieldLink RX7 74 "TableSetterModel" "heights" "[I" ∈ vtb := vtb_in 754 (by decide +kernel) rfl
theorem fl_RX7_77 : Cond.fieldLink RX7 77 "TableSetterModel" "rises" "[I" ∈ vtb := vtb_in 755 (by decide +kernel) rfl
theorem fl_RX7_206 : Cond.fieldLink RX7 206 "TableSetterModel" "tries" "I" ∈ vtb := vtb_in 756 (by decide +kernel) rfl
theorem fl_RX7_80 : Cond.fieldLink RX7 80 "TableSetterModel" "trial" "[I" ∈ vtb := vtb_in 757 (by decide +kernel) rfl
theorem fl_RX7_83 : Cond.fieldLink RX7 83 "TableSetterModel" "first" "[I" ∈ vtb := vtb_in 758 (by decide +kernel) rfl
theorem fl_RX7_138 : Cond.fieldLink RX7 138 "TableSetterModel" "pageMany" "I" ∈ vtb := vtb_in 759 (by decide +kernel) rfl
theorem fl_RX7_86 : Cond.fieldLink RX7 86 "TableSetterModel" "pageFirst" "[I" ∈ vtb := vtb_in 760 (by decide +kernel) rfl
theorem fl_RX7_89 : Cond.fieldLink RX7 89 "TableSetterModel" "pageRows" "[I" ∈ vtb := vtb_in 761 (by decide +kernel) rfl
theorem fl_RX7_92 : Cond.fieldLink RX7 92 "TableSetterModel" "pageEmpty" "[I" ∈ vtb := vtb_in 762 (by decide +kernel) rfl
theorem fl_RX7_95 : Cond.fieldLink RX7 95 "TableSetterModel" "pageNotes" "[I" ∈ vtb := vtb_in 763 (by decide +kernel) rfl
theorem fl_RX7_98 : Cond.fieldLink RX7 98 "TableSetterModel" "pageOf" "[I" ∈ vtb := vtb_in 764 (by decide +kernel) rfl
theorem fl_RX7_101 : Cond.fieldLink RX7 101 "TableSetterModel" "bestPages" "[I" ∈ vtb := vtb_in 765 (by decide +kernel) rfl
theorem fl_RX7_104 : Cond.fieldLink RX7 104 "TableSetterModel" "bestSquares" "[J" ∈ vtb := vtb_in 766 (by decide +kernel) rfl
theorem fl_RX7_108 : Cond.fieldLink RX7 108 "TableSetterModel" "bestRows" "[I" ∈ vtb := vtb_in 767 (by decide +kernel) rfl
theorem ac_boolean : Cond.arrayClass .boolean ∈ vtb := vtb_in 851 (by decide +kernel) rfl
theorem ac_long : Cond.arrayClass .long ∈ vtb := vtb_in 852 (by decide +kernel) rfl
theorem ml_RL_133 : Cond.methodLink RL 133 yX7_finding ∈ vtb := vtb_in 853 (by decide +kernel) rfl
theorem im_yX7_finding : Cond.instanceMethod yX7_finding ∈ vtb := vtb_in 854 (by decide +kernel) rfl
theorem se_yX7_finding : Cond.selects RX7 yX7_finding yX7_finding ∈ vtb := vtb_in 855 (by decide +kernel) rfl
theorem ml_RL_137 : Cond.methodLink RL 137 yX7_findings ∈ vtb := vtb_in 857 (by decide +kernel) rfl
theorem im_yX7_findings : Cond.instanceMethod yX7_findings ∈ vtb := vtb_in 858 (by decide +kernel) rfl
theorem se_yX7_findings : Cond.selects RX7 yX7_findings yX7_findings ∈ vtb := vtb_in 859 (by decide +kernel) rfl
theorem ml_RX7_119 : Cond.methodLink RX7 119 yX7_in ∈ vtb := vtb_in 861 (by decide +kernel) rfl
theorem st_yX7_in : Cond.static yX7_in ∈ vtb := vtb_in 862 (by decide +kernel) rfl
theorem ml_RL_17 : Cond.methodLink RL 17 yX7_table ∈ vtb := vtb_in 864 (by decide +kernel) rfl
theorem im_yX7_table : Cond.instanceMethod yX7_table ∈ vtb := vtb_in 865 (by decide +kernel) rfl
theorem se_yX7_table : Cond.selects RX7 yX7_table yX7_table ∈ vtb := vtb_in 866 (by decide +kernel) rfl
theorem ml_RL_22 : Cond.methodLink RL 22 yX7_weight ∈ vtb := vtb_in 868 (by decide +kernel) rfl
theorem im_yX7_weight : Cond.instanceMethod yX7_weight ∈ vtb := vtb_in 869 (by decide +kernel) rfl
theorem se_yX7_weight : Cond.selects RX7 yX7_weight yX7_weight ∈ vtb := vtb_in 870 (by decide +kernel) rfl
theorem ml_RX7_141 : Cond.methodLink RX7 141 yX7_isColumn ∈ vtb := vtb_in 872 (by decide +kernel) rfl
theorem im_yX7_isColumn : Cond.instanceMethod yX7_isColumn ∈ vtb := vtb_in 874 (by decide +kernel) rfl
theorem ml_RL_26 : Cond.methodLink RL 26 yX7_note ∈ vtb := vtb_in 876 (by decide +kernel) rfl
theorem im_yX7_note : Cond.instanceMethod yX7_note ∈ vtb := vtb_in 877 (by decide +kernel) rfl
theorem se_yX7_note : Cond.selects RX7 yX7_note yX7_note ∈ vtb := vtb_in 878 (by decide +kernel) rfl
theorem ml_RL_31 : Cond.methodLink RL 31 yX7_cell ∈ vtb := vtb_in 880 (by decide +kernel) rfl
theorem im_yX7_cell : Cond.instanceMethod yX7_cell ∈ vtb := vtb_in 881 (by decide +kernel) rfl
theorem se_yX7_cell : Cond.selects RX7 yX7_cell yX7_cell ∈ vtb := vtb_in 882 (by decide +kernel) rfl
theorem ml_RX7_148 : Cond.methodLink RX7 148 yX7_isRow ∈ vtb := vtb_in 884 (by decide +kernel) rfl
theorem im_yX7_isRow : Cond.instanceMethod yX7_isRow ∈ vtb := vtb_in 886 (by decide +kernel) rfl
theorem ml_RX7_151 : Cond.methodLink RX7 151 yX7_meets ∈ vtb := vtb_in 888 (by decide +kernel) rfl
theorem im_yX7_meets : Cond.instanceMethod yX7_meets ∈ vtb := vtb_in 890 (by decide +kernel) rfl
theorem ml_RX7_155 : Cond.methodLink RX7 155 yX7_cellOn ∈ vtb := vtb_in 892 (by decide +kernel) rfl
theorem im_yX7_cellOn : Cond.instanceMethod yX7_cellOn ∈ vtb := vtb_in 894 (by decide +kernel) rfl
theorem ml_RX7_145 : Cond.methodLink RX7 145 yX7_liesOn ∈ vtb := vtb_in 896 (by decide +kernel) rfl
theorem im_yX7_liesOn : Cond.instanceMethod yX7_liesOn ∈ vtb := vtb_in 898 (by decide +kernel) rfl
theorem ml_RL_36 : Cond.methodLink RL 36 yX7_clash ∈ vtb := vtb_in 900 (by decide +kernel) rfl
theorem im_yX7_clash : Cond.instanceMethod yX7_clash ∈ vtb := vtb_in 901 (by decide +kernel) rfl
theorem se_yX7_clash : Cond.selects RX7 yX7_clash yX7_clash ∈ vtb := vtb_in 902 (by decide +kernel) rfl
theorem ml_RL_41 : Cond.methodLink RL 41 yX7_drop ∈ vtb := vtb_in 904 (by decide +kernel) rfl
theorem im_yX7_drop : Cond.instanceMethod yX7_drop ∈ vtb := vtb_in 905 (by decide +kernel) rfl
theorem se_yX7_drop : Cond.selects RX7 yX7_drop yX7_drop ∈ vtb := vtb_in 906 (by decide +kernel) rfl
theorem ml_RX7_159 : Cond.methodLink RX7 159 yX7_isCell ∈ vtb := vtb_in 908 (by decide +kernel) rfl
theorem im_yX7_isCell : Cond.instanceMethod yX7_isCell ∈ vtb := vtb_in 910 (by decide +kernel) rfl
theorem ml_RL_45 : Cond.methodLink RL 45 yX7_told ∈ vtb := vtb_in 912 (by decide +kernel) rfl
theorem im_yX7_told : Cond.instanceMethod yX7_told ∈ vtb := vtb_in 913 (by decide +kernel) rfl
theorem se_yX7_told : Cond.selects RX7 yX7_told yX7_told ∈ vtb := vtb_in 914 (by decide +kernel) rfl
theorem ml_RX7_162 : Cond.methodLink RX7 162 yX7_need ∈ vtb := vtb_in 916 (by decide +kernel) rfl
theorem im_yX7_need : Cond.instanceMethod yX7_need ∈ vtb := vtb_in 918 (by decide +kernel) rfl
theorem ml_RX7_166 : Cond.methodLink RX7 166 yX7_toldOf ∈ vtb := vtb_in 920 (by decide +kernel) rfl
theorem im_yX7_toldOf : Cond.instanceMethod yX7_toldOf ∈ vtb := vtb_in 922 (by decide +kernel) rfl
theorem ml_RL_49 : Cond.methodLink RL 49 yX7_is ∈ vtb := vtb_in 924 (by decide +kernel) rfl
theorem im_yX7_is : Cond.instanceMethod yX7_is ∈ vtb := vtb_in 925 (by decide +kernel) rfl
theorem se_yX7_is : Cond.selects RX7 yX7_is yX7_is ∈ vtb := vtb_in 926 (by decide +kernel) rfl
theorem ml_RL_53 : Cond.methodLink RL 53 yX7_on ∈ vtb := vtb_in 928 (by decide +kernel) rfl
theorem im_yX7_on : Cond.instanceMethod yX7_on ∈ vtb := vtb_in 929 (by decide +kernel) rfl
theorem se_yX7_on : Cond.selects RX7 yX7_on yX7_on ∈ vtb := vtb_in 930 (by decide +kernel) rfl
theorem ml_RL_57 : Cond.methodLink RL 57 yX7_words ∈ vtb := vtb_in 932 (by decide +kernel) rfl
theorem im_yX7_words : Cond.instanceMethod yX7_words ∈ vtb := vtb_in 933 (by decide +kernel) rfl
theorem se_yX7_words : Cond.selects RX7 yX7_words yX7_words ∈ vtb := vtb_in 934 (by decide +kernel) rfl
theorem ml_RL_61 : Cond.methodLink RL 61 yX7_word ∈ vtb := vtb_in 936 (by decide +kernel) rfl
theorem im_yX7_word : Cond.instanceMethod yX7_word ∈ vtb := vtb_in 937 (by decide +kernel) rfl
theorem se_yX7_word : Cond.selects RX7 yX7_word yX7_word ∈ vtb := vtb_in 938 (by decide +kernel) rfl
theorem ml_RL_65 : Cond.methodLink RL 65 yX7_copy ∈ vtb := vtb_in 940 (by decide +kernel) rfl
theorem im_yX7_copy : Cond.instanceMethod yX7_copy ∈ vtb := vtb_in 941 (by decide +kernel) rfl
theorem se_yX7_copy : Cond.selects RX7 yX7_copy yX7_copy ∈ vtb := vtb_in 942 (by decide +kernel) rfl
theorem ml_RL_69 : Cond.methodLink RL 69 yX7_mean ∈ vtb := vtb_in 944 (by decide +kernel) rfl
theorem im_yX7_mean : Cond.instanceMethod yX7_mean ∈ vtb := vtb_in 945 (by decide +kernel) rfl
theorem se_yX7_mean : Cond.selects RX7 yX7_mean yX7_mean ∈ vtb := vtb_in 946 (by decide +kernel) rfl
theorem ml_RX7_169 : Cond.methodLink RX7 169 yX7_lettersOf ∈ vtb := vtb_in 948 (by decide +kernel) rfl
theorem im_yX7_lettersOf : Cond.instanceMethod yX7_lettersOf ∈ vtb := vtb_in 950 (by decide +kernel) rfl
theorem ml_RL_73 : Cond.methodLink RL 73 yX7_calls ∈ vtb := vtb_in 952 (by decide +kernel) rfl
theorem im_yX7_calls : Cond.instanceMethod yX7_calls ∈ vtb := vtb_in 953 (by decide +kernel) rfl
theorem se_yX7_calls : Cond.selects RX7 yX7_calls yX7_calls ∈ vtb := vtb_in 954 (by decide +kernel) rfl
theorem ml_RL_77 : Cond.methodLink RL 77 yX7_fix ∈ vtb := vtb_in 956 (by decide +kernel) rfl
theorem im_yX7_fix : Cond.instanceMethod yX7_fix ∈ vtb := vtb_in 957 (by decide +kernel) rfl
theorem se_yX7_fix : Cond.selects RX7 yX7_fix yX7_fix ∈ vtb := vtb_in 958 (by decide +kernel) rfl
theorem ml_RL_81 : Cond.methodLink RL 81 yX7_lines ∈ vtb := vtb_in 960 (by decide +kernel) rfl
theorem im_yX7_lines : Cond.instanceMethod yX7_lines ∈ vtb := vtb_in 961 (by decide +kernel) rfl
theorem se_yX7_lines : Cond.selects RX7 yX7_lines yX7_lines ∈ vtb := vtb_in 962 (by decide +kernel) rfl
theorem ml_RX7_172 : Cond.methodLink RX7 172 yX7_linesOf ∈ vtb := vtb_in 964 (by decide +kernel) rfl
theorem im_yX7_linesOf : Cond.instanceMethod yX7_linesOf ∈ vtb := vtb_in 966 (by decide +kernel) rfl
theorem ml_RL_85 : Cond.methodLink RL 85 yX7_want ∈ vtb := vtb_in 968 (by decide +kernel) rfl
theorem im_yX7_want : Cond.instanceMethod yX7_want ∈ vtb := vtb_in 969 (by decide +kernel) rfl
theorem se_yX7_want : Cond.selects RX7 yX7_want yX7_want ∈ vtb := vtb_in 970 (by decide +kernel) rfl
theorem ml_RX7_175 : Cond.methodLink RX7 175 yX7_wantOf ∈ vtb := vtb_in 972 (by decide +kernel) rfl
theorem im_yX7_wantOf : Cond.instanceMethod yX7_wantOf ∈ vtb := vtb_in 974 (by decide +kernel) rfl
theorem ml_RL_89 : Cond.methodLink RL 89 yX7_natural ∈ vtb := vtb_in 976 (by decide +kernel) rfl
theorem im_yX7_natural : Cond.instanceMethod yX7_natural ∈ vtb := vtb_in 977 (by decide +kernel) rfl
theorem se_yX7_natural : Cond.selects RX7 yX7_natural yX7_natural ∈ vtb := vtb_in 978 (by decide +kernel) rfl
theorem ml_RX7_192 : Cond.methodLink RX7 192 yX7_layBoth ∈ vtb := vtb_in 980 (by decide +kernel) rfl
theorem im_yX7_layBoth : Cond.instanceMethod yX7_layBoth ∈ vtb := vtb_in 982 (by decide +kernel) rfl
theorem ml_RX7_188 : Cond.methodLink RX7 188 yX7_layWidths ∈ vtb := vtb_in 984 (by decide +kernel) rfl
theorem im_yX7_layWidths : Cond.instanceMethod yX7_layWidths ∈ vtb := vtb_in 986 (by decide +kernel) rfl
theorem ml_RX7_178 : Cond.methodLink RX7 178 yX7_widthOver ∈ vtb := vtb_in 988 (by decide +kernel) rfl
theorem im_yX7_widthOver : Cond.instanceMethod yX7_widthOver ∈ vtb := vtb_in 990 (by decide +kernel) rfl
theorem ml_RX7_182 : Cond.methodLink RX7 182 yX7_lacks ∈ vtb := vtb_in 992 (by decide +kernel) rfl
theorem im_yX7_lacks : Cond.instanceMethod yX7_lacks ∈ vtb := vtb_in 994 (by decide +kernel) rfl
theorem ml_RX7_185 : Cond.methodLink RX7 185 yX7_share ∈ vtb := vtb_in 996 (by decide +kernel) rfl
theorem im_yX7_share : Cond.instanceMethod yX7_share ∈ vtb := vtb_in 998 (by decide +kernel) rfl
theorem ml_RL_93 : Cond.methodLink RL 93 yX7_set ∈ vtb := vtb_in 1000 (by decide +kernel) rfl
theorem im_yX7_set : Cond.instanceMethod yX7_set ∈ vtb := vtb_in 1001 (by decide +kernel) rfl
theorem se_yX7_set : Cond.selects RX7 yX7_set yX7_set ∈ vtb := vtb_in 1002 (by decide +kernel) rfl
theorem ml_RX7_195 : Cond.methodLink RX7 195 yX7_sumOf ∈ vtb := vtb_in 1004 (by decide +kernel) rfl
theorem im_yX7_sumOf : Cond.instanceMethod yX7_sumOf ∈ vtb := vtb_in 1006 (by decide +kernel) rfl
theorem ml_RX7_199 : Cond.methodLink RX7 199 yX7_heightBy ∈ vtb := vtb_in 1008 (by decide +kernel) rfl
theorem im_yX7_heightBy : Cond.instanceMethod yX7_heightBy ∈ vtb := vtb_in 1010 (by decide +kernel) rfl
theorem ml_RX7_202 : Cond.methodLink RX7 202 yX7_layHeights ∈ vtb := vtb_in 1012 (by decide +kernel) rfl
theorem im_yX7_layHeights : Cond.instanceMethod yX7_layHeights ∈ vtb := vtb_in 1014 (by decide +kernel) rfl
theorem ml_RL_97 : Cond.methodLink RL 97 yX7_tight ∈ vtb := vtb_in 1016 (by decide +kernel) rfl
theorem im_yX7_tight : Cond.instanceMethod yX7_tight ∈ vtb := vtb_in 1017 (by decide +kernel) rfl
theorem se_yX7_tight : Cond.selects RX7 yX7_tight yX7_tight ∈ vtb := vtb_in 1018 (by decide +kernel) rfl
theorem ml_RX7_209 : Cond.methodLink RX7 209 yX7_next ∈ vtb := vtb_in 1020 (by decide +kernel) rfl
theorem im_yX7_next : Cond.instanceMethod yX7_next ∈ vtb := vtb_in 1022 (by decide +kernel) rfl
theorem ml_RL_101 : Cond.methodLink RL 101 yX7_tries ∈ vtb := vtb_in 1024 (by decide +kernel) rfl
theorem im_yX7_tries : Cond.instanceMethod yX7_tries ∈ vtb := vtb_in 1025 (by decide +kernel) rfl
theorem se_yX7_tries : Cond.selects RX7 yX7_tries yX7_tries ∈ vtb := vtb_in 1026 (by decide +kernel) rfl
theorem ml_RL_105 : Cond.methodLink RL 105 yX7_width ∈ vtb := vtb_in 1028 (by decide +kernel) rfl
theorem im_yX7_width : Cond.instanceMethod yX7_width ∈ vtb := vtb_in 1029 (by decide +kernel) rfl
theorem se_yX7_width : Cond.selects RX7 yX7_width yX7_width ∈ vtb := vtb_in 1030 (by decide +kernel) rfl
theorem ml_RL_109 : Cond.methodLink RL 109 yX7_height ∈ vtb := vtb_in 1032 (by decide +kernel) rfl
theorem im_yX7_height : Cond.instanceMethod yX7_height ∈ vtb := vtb_in 1033 (by decide +kernel) rfl
theorem se_yX7_height : Cond.selects RX7 yX7_height yX7_height ∈ vtb := vtb_in 1034 (by decide +kernel) rfl
theorem ml_RL_125 : Cond.methodLink RL 125 yX7_mayBreak ∈ vtb := vtb_in 1036 (by decide +kernel) rfl
theorem im_yX7_mayBreak : Cond.instanceMethod yX7_mayBreak ∈ vtb := vtb_in 1037 (by decide +kernel) rfl
theorem se_yX7_mayBreak : Cond.selects RX7 yX7_mayBreak yX7_mayBreak ∈ vtb := vtb_in 1038 (by decide +kernel) rfl
theorem ml_RX7_217 : Cond.methodLink RX7 217 yX7_mayBreakAt ∈ vtb := vtb_in 1040 (by decide +kernel) rfl
theorem im_yX7_mayBreakAt : Cond.instanceMethod yX7_mayBreakAt ∈ vtb := vtb_in 1042 (by decide +kernel) rfl
theorem ml_RX7_213 : Cond.methodLink RX7 213 yX7_headRows ∈ vtb := vtb_in 1044 (by decide +kernel) rfl
theorem im_yX7_headRows : Cond.instanceMethod yX7_headRows ∈ vtb := vtb_in 1046 (by decide +kernel) rfl
theorem ml_RL_113 : Cond.methodLink RL 113 yX7_pages ∈ vtb := vtb_in 1048 (by decide +kernel) rfl
theorem im_yX7_pages : Cond.instanceMethod yX7_pages ∈ vtb := vtb_in 1049 (by decide +kernel) rfl
theorem se_yX7_pages : Cond.selects RX7 yX7_pages yX7_pages ∈ vtb := vtb_in 1050 (by decide +kernel) rfl
theorem ml_RX7_227 : Cond.methodLink RX7 227 yX7_emptyOf ∈ vtb := vtb_in 1052 (by decide +kernel) rfl
theorem im_yX7_emptyOf : Cond.instanceMethod yX7_emptyOf ∈ vtb := vtb_in 1054 (by decide +kernel) rfl
theorem ml_RX7_223 : Cond.methodLink RX7 223 yX7_notesOn ∈ vtb := vtb_in 1056 (by decide +kernel) rfl
theorem im_yX7_notesOn : Cond.instanceMethod yX7_notesOn ∈ vtb := vtb_in 1058 (by decide +kernel) rfl
theorem ml_RX7_220 : Cond.methodLink RX7 220 yX7_homeOf ∈ vtb := vtb_in 1060 (by decide +kernel) rfl
theorem im_yX7_homeOf : Cond.instanceMethod yX7_homeOf ∈ vtb := vtb_in 1062 (by decide +kernel) rfl
theorem ml_RL_117 : Cond.methodLink RL 117 yX7_page ∈ vtb := vtb_in 1064 (by decide +kernel) rfl
theorem im_yX7_page : Cond.instanceMethod yX7_page ∈ vtb := vtb_in 1065 (by decide +kernel) rfl
theorem se_yX7_page : Cond.selects RX7 yX7_page yX7_page ∈ vtb := vtb_in 1066 (by decide +kernel) rfl
theorem ml_RX7_231 : Cond.methodLink RX7 231 yX7_pageTold ∈ vtb := vtb_in 1068 (by decide +kernel) rfl
theorem im_yX7_pageTold : Cond.instanceMethod yX7_pageTold ∈ vtb := vtb_in 1070 (by decide +kernel) rfl
theorem ml_RL_121 : Cond.methodLink RL 121 yX7_pageOf ∈ vtb := vtb_in 1072 (by decide +kernel) rfl
theorem im_yX7_pageOf : Cond.instanceMethod yX7_pageOf ∈ vtb := vtb_in 1073 (by decide +kernel) rfl
theorem se_yX7_pageOf : Cond.selects RX7 yX7_pageOf yX7_pageOf ∈ vtb := vtb_in 1074 (by decide +kernel) rfl
theorem ml_RL_129 : Cond.methodLink RL 129 yX7_count ∈ vtb := vtb_in 1076 (by decide +kernel) rfl
theorem im_yX7_count : Cond.instanceMethod yX7_count ∈ vtb := vtb_in 1077 (by decide +kernel) rfl
theorem se_yX7_count : Cond.selects RX7 yX7_count yX7_count ∈ vtb := vtb_in 1078 (by decide +kernel) rfl
theorem ml_RL_142 : Cond.methodLink RL 142 yX7_digest ∈ vtb := vtb_in 1080 (by decide +kernel) rfl
theorem im_yX7_digest : Cond.instanceMethod yX7_digest ∈ vtb := vtb_in 1081 (by decide +kernel) rfl
theorem se_yX7_digest : Cond.selects RX7 yX7_digest yX7_digest ∈ vtb := vtb_in 1082 (by decide +kernel) rfl
theorem kl_RX7_234 : Cond.constantLong RX7 234 (31) ∈ vtb := vtb_in 1084 (by decide +kernel) rfl
theorem kl_RX7_236 : Cond.constantLong RX7 236 (527) ∈ vtb := vtb_in 1085 (by decide +kernel) rfl
theorem ml_RX7_238 : Cond.methodLink RX7 238 yX7_digestCell ∈ vtb := vtb_in 1086 (by decide +kernel) rfl
theorem im_yX7_digestCell : Cond.instanceMethod yX7_digestCell ∈ vtb := vtb_in 1088 (by decide +kernel) rfl
theorem co_Math_max : Cond.code Lib.Math.max.name Lib.Math.max.code 2 (some .int) ∈ vtb := vtb_in 475 (by decide +kernel) rfl
theorem co_Math_min : Cond.code Lib.Math.min.name Lib.Math.min.code 2 (some .int) ∈ vtb := vtb_in 513 (by decide +kernel) rfl
theorem co_Object : Cond.code objectInit ⟨#[0xb1]⟩ 1 none ∈ vtb := vtb_in 69 (by decide +kernel) rfl
theorem inX0 : ∀ w ∈ u_ws RX0 TX0 11, w ∈ vtb := fun w hw => List.mem_filter.mpr (by have h := List.all_eq_true.mp (by decide +kernel : (u_ws RX0 TX0 11).all (fun w => decide (w ∈ lw_tbl) && goodWord w) = true) w hw; simpa only [Bool.and_eq_true, decide_eq_true_eq] using h)
theorem inX1 : ∀ w ∈ u_ws RX1 TX1 7, w ∈ vtb := fun w hw => List.mem_filter.mpr (by have h := List.all_eq_true.mp (by decide +kernel : (u_ws RX1 TX1 7).all (fun w => decide (w ∈ lw_tbl) && goodWord w) = true) w hw; simpa only [Bool.and_eq_true, decide_eq_true_eq] using h)
theorem inX2 : ∀ w ∈ u_ws RX2 TX2 5, w ∈ vtb := fun w hw => List.mem_filter.mpr (by have h := List.all_eq_true.mp (by decide +kernel : (u_ws RX2 TX2 5).all (fun w => decide (w ∈ lw_tbl) && goodWord w) = true) w hw; simpa only [Bool.and_eq_true, decide_eq_true_eq] using h)
theorem inX3 : ∀ w ∈ u_ws RX3 TX3 12, w ∈ vtb := fun w hw => List.mem_filter.mpr (by have h := List.all_eq_true.mp (by decide +kernel : (u_ws RX3 TX3 12).all (fun w => decide (w ∈ lw_tbl) && goodWord w) = true) w hw; simpa only [Bool.and_eq_true, decide_eq_true_eq] using h)
theorem inX4 : ∀ w ∈ u_ws RX4 TX4 2, w ∈ vtb := fun w hw => List.mem_filter.mpr (by have h := List.all_eq_true.mp (by decide +kernel : (u_ws RX4 TX4 2).all (fun w => decide (w ∈ lw_tbl) && goodWord w) = true) w hw; simpa only [Bool.and_eq_true, decide_eq_true_eq] using h)
theorem inX5 : ∀ w ∈ u_ws RX5 TX5 9, w ∈ vtb := fun w hw => List.mem_filter.mpr (by have h := List.all_eq_true.mp (by decide +kernel : (u_ws RX5 TX5 9).all (fun w => decide (w ∈ lw_tbl) && goodWord w) = true) w hw; simpa only [Bool.and_eq_true, decide_eq_true_eq] using h)
theorem inX6 : ∀ w ∈ u_ws RX6 TX6 8, w ∈ vtb := fun w hw => List.mem_filter.mpr (by have h := List.all_eq_true.mp (by decide +kernel : (u_ws RX6 TX6 8).all (fun w => decide (w ∈ lw_tbl) && goodWord w) = true) w hw; simpa only [Bool.and_eq_true, decide_eq_true_eq] using h)
theorem inX7 : ∀ w ∈ u_ws RX7 TX7 41, w ∈ vtb := fun w hw => List.mem_filter.mpr (by have h := List.all_eq_true.mp (by decide +kernel : (u_ws RX7 TX7 41).all (fun w => decide (w ∈ lw_tbl) && goodWord w) = true) w hw; simpa only [Bool.and_eq_true, decide_eq_true_eq] using h)
theorem pl_X6_init : mX6_init.1.cls ≠ "java/lang/invoke/MethodHandle" ∧ mX6_init.1.cls ≠ "java/lang/invoke/VarHandle" ∧ (parseMethodDescriptor mX6_init.1.desc).map (fun d => d.parameters.length) = some 0 := by decide +kernel
theorem pn_X6_init : plainName mX6_init.1.cls = true := by decide +kernel
theorem pl_X1_init : mX1_init.1.cls ≠ "java/lang/invoke/MethodHandle" ∧ mX1_init.1.cls ≠ "java/lang/invoke/VarHandle" ∧ (parseMethodDescriptor mX1_init.1.desc).map (fun d => d.parameters.length) = some 0 := by decide +kernel
theorem pn_X1_init : plainName mX1_init.1.cls = true := by decide +kernel
theorem pl_X0_init : mX0_init.1.cls ≠ "java/lang/invoke/MethodHandle" ∧ mX0_init.1.cls ≠ "java/lang/invoke/VarHandle" ∧ (parseMethodDescriptor mX0_init.1.desc).map (fun d => d.parameters.length) = some 0 := by decide +kernel
theorem pn_X0_init : plainName mX0_init.1.cls = true := by decide +kernel
theorem pl_J7_fill_53178 : mJ7_fill_53178.1.cls ≠ "java/lang/invoke/MethodHandle" ∧ mJ7_fill_53178.1.cls ≠ "java/lang/invoke/VarHandle" ∧ (parseMethodDescriptor mJ7_fill_53178.1.desc).map (fun d => d.parameters.length) = some 2 := by decide +kernel
theorem pn_J7_fill_53178 : plainName mJ7_fill_53178.1.cls = true := by decide +kernel
theorem pl_X1_begin : mX1_begin.1.cls ≠ "java/lang/invoke/MethodHandle" ∧ mX1_begin.1.cls ≠ "java/lang/invoke/VarHandle" ∧ (parseMethodDescriptor mX1_begin.1.desc).map (fun d => d.parameters.length) = some 3 := by decide +kernel
theorem pn_X1_begin : plainName mX1_begin.1.cls = true := by decide +kernel
theorem pl_X2_init : mX2_init.1.cls ≠ "java/lang/invoke/MethodHandle" ∧ mX2_init.1.cls ≠ "java/lang/invoke/VarHandle" ∧ (parseMethodDescriptor mX2_init.1.desc).map (fun d => d.parameters.length) = some 1 := by decide +kernel
theorem pn_X2_init : plainName mX2_init.1.cls = true := by decide +kernel
theorem pl_X5_init : mX5_init.1.cls ≠ "java/lang/invoke/MethodHandle" ∧ mX5_init.1.cls ≠ "java/lang/invoke/VarHandle" ∧ (parseMethodDescriptor mX5_init.1.desc).map (fun d => d.parameters.length) = some 2 := by decide +kernel
theorem pn_X5_init : plainName mX5_init.1.cls = true := by decide +kernel
theorem pl_X4_init : mX4_init.1.cls ≠ "java/lang/invoke/MethodHandle" ∧ mX4_init.1.cls ≠ "java/lang/invoke/VarHandle" ∧ (parseMethodDescriptor mX4_init.1.desc).map (fun d => d.parameters.length) = some 0 := by decide +kernel
theorem pn_X4_init : plainName mX4_init.1.cls = true := by decide +kernel
theorem pl_X3_init : mX3_init.1.cls ≠ "java/lang/invoke/MethodHandle" ∧ mX3_init.1.cls ≠ "java/lang/invoke/VarHandle" ∧ (parseMethodDescriptor mX3_init.1.desc).map (fun d => d.parameters.length) = some 2 := by decide +kernel
theorem pn_X3_init : plainName mX3_init.1.cls = true := by decide +kernel
theorem pl_X6_table : mX6_table.1.cls ≠ "java/lang/invoke/MethodHandle" ∧ mX6_table.1.cls ≠ "java/lang/invoke/VarHandle" ∧ (parseMethodDescriptor mX6_table.1.desc).map (fun d => d.parameters.length) = some 3 := by decide +kernel
theorem pn_X6_table : plainName mX6_table.1.cls = true := by decide +kernel
theorem pl_X6_isWithin : mX6_isWithin.1.cls ≠ "java/lang/invoke/MethodHandle" ∧ mX6_isWithin.1.cls ≠ "java/lang/invoke/VarHandle" ∧ (parseMethodDescriptor mX6_isWithin.1.desc).map (fun d => d.parameters.length) = some 3 := by decide +kernel
theorem pn_X6_isWithin : plainName mX6_isWithin.1.cls = true := by decide +kernel
theorem pl_X5_forget : mX5_forget.1.cls ≠ "java/lang/invoke/MethodHandle" ∧ mX5_forget.1.cls ≠ "java/lang/invoke/VarHandle" ∧ (parseMethodDescriptor mX5_forget.1.desc).map (fun d => d.parameters.length) = some 0 := by decide +kernel
theorem pn_X5_forget : plainName mX5_forget.1.cls = true := by decide +kernel
theorem pl_X3_forget : mX3_forget.1.cls ≠ "java/lang/invoke/MethodHandle" ∧ mX3_forget.1.cls ≠ "java/lang/invoke/VarHandle" ∧ (parseMethodDescriptor mX3_forget.1.desc).map (fun d => d.parameters.length) = some 0 := by decide +kernel
theorem pn_X3_forget : plainName mX3_forget.1.cls = true := by decide +kernel
theorem pl_X6_weight : mX6_weight.1.cls ≠ "java/lang/invoke/MethodHandle" ∧ mX6_weight.1.cls ≠ "java/lang/invoke/VarHandle" ∧ (parseMethodDescriptor mX6_weight.1.desc).map (fun d => d.parameters.length) = some 2 := by decide +kernel
theorem pn_X6_weight : plainName mX6_weight.1.cls = true := by decide +kernel
theorem pl_X6_note : mX6_note.1.cls ≠ "java/lang/invoke/MethodHandle" ∧ mX6_note.1.cls ≠ "java/lang/invoke/VarHandle" ∧ (parseMethodDescriptor mX6_note.1.desc).map (fun d => d.parameters.length) = some 2 := by decide +kernel
theorem pn_X6_note : plainName mX6_note.1.cls = true := by decide +kernel
theorem pl_X6_cell : mX6_cell.1.cls ≠ "java/lang/invoke/MethodHandle" ∧ mX6_cell.1.cls ≠ "java/lang/invoke/VarHandle" ∧ (parseMethodDescriptor mX6_cell.1.desc).map (fun d => d.parameters.length) = some 5 := by decide +kernel
theorem pn_X6_cell : plainName mX6_cell.1.cls = true := by decide +kernel
theorem pl_X6_isPlace : mX6_isPlace.1.cls ≠ "java/lang/invoke/MethodHandle" ∧ mX6_isPlace.1.cls ≠ "java/lang/invoke/VarHandle" ∧ (parseMethodDescriptor mX6_isPlace.1.desc).map (fun d => d.parameters.length) = some 2 := by decide +kernel
theorem pn_X6_isPlace : plainName mX6_isPlace.1.cls = true := by decide +kernel
theorem pl_X6_tell : mX6_tell.1.cls ≠ "java/lang/invoke/MethodHandle" ∧ mX6_tell.1.cls ≠ "java/lang/invoke/VarHandle" ∧ (parseMethodDescriptor mX6_tell.1.desc).map (fun d => d.parameters.length) = some 1 := by decide +kernel
theorem pn_X6_tell : plainName mX6_tell.1.cls = true := by decide +kernel
theorem pl_X1_firstOn : mX1_firstOn.1.cls ≠ "java/lang/invoke/MethodHandle" ∧ mX1_firstOn.1.cls ≠ "java/lang/invoke/VarHandle" ∧ (parseMethodDescriptor mX1_firstOn.1.desc).map (fun d => d.parameters.length) = some 4 := by decide +kernel
theorem pn_X1_firstOn : plainName mX1_firstOn.1.cls = true := by decide +kernel
theorem pl_X1_present : mX1_present.1.cls ≠ "java/lang/invoke/MethodHandle" ∧ mX1_present.1.cls ≠ "java/lang/invoke/VarHandle" ∧ (parseMethodDescriptor mX1_present.1.desc).map (fun d => d.parameters.length) = some 1 := by decide +kernel
theorem pn_X1_present : plainName mX1_present.1.cls = true := by decide +kernel
theorem pl_X1_numbered : mX1_numbered.1.cls ≠ "java/lang/invoke/MethodHandle" ∧ mX1_numbered.1.cls ≠ "java/lang/invoke/VarHandle" ∧ (parseMethodDescriptor mX1_numbered.1.desc).map (fun d => d.parameters.length) = some 1 := by decide +kernel
theorem pn_X1_numbered : plainName mX1_numbered.1.cls = true := by decide +kernel
theorem pl_X0_meets : mX0_meets.1.cls ≠ "java/lang/invoke/MethodHandle" ∧ mX0_meets.1.cls ≠ "java/lang/invoke/VarHandle" ∧ (parseMethodDescriptor mX0_meets.1.desc).map (fun d => d.parameters.length) = some 4 := by decide +kernel
theorem pn_X0_meets : plainName mX0_meets.1.cls = true := by decide +kernel
theorem pl_X1_add : mX1_add.1.cls ≠ "java/lang/invoke/MethodHandle" ∧ mX1_add.1.cls ≠ "java/lang/invoke/VarHandle" ∧ (parseMethodDescriptor mX1_add.1.desc).map (fun d => d.parameters.length) = some 5 := by decide +kernel
theorem pn_X1_add : plainName mX1_add.1.cls = true := by decide +kernel
theorem pl_X0_begin : mX0_begin.1.cls ≠ "java/lang/invoke/MethodHandle" ∧ mX0_begin.1.cls ≠ "java/lang/invoke/VarHandle" ∧ (parseMethodDescriptor mX0_begin.1.desc).map (fun d => d.parameters.length) = some 5 := by decide +kernel
theorem pn_X0_begin : plainName mX0_begin.1.cls = true := by decide +kernel
theorem pl_X0_fill : mX0_fill.1.cls ≠ "java/lang/invoke/MethodHandle" ∧ mX0_fill.1.cls ≠ "java/lang/invoke/VarHandle" ∧ (parseMethodDescriptor mX0_fill.1.desc).map (fun d => d.parameters.length) = some 1 := by decide +kernel
theorem pn_X0_fill : plainName mX0_fill.1.cls = true := by decide +kernel
theorem pl_X0_forgetLines : mX0_forgetLines.1.cls ≠ "java/lang/invoke/MethodHandle" ∧ mX0_forgetLines.1.cls ≠ "java/lang/invoke/VarHandle" ∧ (parseMethodDescriptor mX0_forgetLines.1.desc).map (fun d => d.parameters.length) = some 0 := by decide +kernel
theorem pn_X0_forgetLines : plainName mX0_forgetLines.1.cls = true := by decide +kernel
theorem pl_X6_clash : mX6_clash.1.cls ≠ "java/lang/invoke/MethodHandle" ∧ mX6_clash.1.cls ≠ "java/lang/invoke/VarHandle" ∧ (parseMethodDescriptor mX6_clash.1.desc).map (fun d => d.parameters.length) = some 0 := by decide +kernel
theorem pn_X6_clash : plainName mX6_clash.1.cls = true := by decide +kernel
theorem pl_X6_drop : mX6_drop.1.cls ≠ "java/lang/invoke/MethodHandle" ∧ mX6_drop.1.cls ≠ "java/lang/invoke/VarHandle" ∧ (parseMethodDescriptor mX6_drop.1.desc).map (fun d => d.parameters.length) = some 1 := by decide +kernel
theorem pn_X6_drop : plainName mX6_drop.1.cls = true := by decide +kernel
theorem pl_X6_told : mX6_told.1.cls ≠ "java/lang/invoke/MethodHandle" ∧ mX6_told.1.cls ≠ "java/lang/invoke/VarHandle" ∧ (parseMethodDescriptor mX6_told.1.desc).map (fun d => d.parameters.length) = some 2 := by decide +kernel
theorem pn_X6_told : plainName mX6_told.1.cls = true := by decide +kernel
theorem pl_X0_fact : mX0_fact.1.cls ≠ "java/lang/invoke/MethodHandle" ∧ mX0_fact.1.cls ≠ "java/lang/invoke/VarHandle" ∧ (parseMethodDescriptor mX0_fact.1.desc).map (fun d => d.parameters.length) = some 1 := by decide +kernel
theorem pn_X0_fact : plainName mX0_fact.1.cls = true := by decide +kernel
theorem pl_X6_is : mX6_is.1.cls ≠ "java/lang/invoke/MethodHandle" ∧ mX6_is.1.cls ≠ "java/lang/invoke/VarHandle" ∧ (parseMethodDescriptor mX6_is.1.desc).map (fun d => d.parameters.length) = some 2 := by decide +kernel
theorem pn_X6_is : plainName mX6_is.1.cls = true := by decide +kernel
theorem pl_X6_on : mX6_on.1.cls ≠ "java/lang/invoke/MethodHandle" ∧ mX6_on.1.cls ≠ "java/lang/invoke/VarHandle" ∧ (parseMethodDescriptor mX6_on.1.desc).map (fun d => d.parameters.length) = some 2 := by decide +kernel
theorem pn_X6_on : plainName mX6_on.1.cls = true := by decide +kernel
theorem pl_X6_words : mX6_words.1.cls ≠ "java/lang/invoke/MethodHandle" ∧ mX6_words.1.cls ≠ "java/lang/invoke/VarHandle" ∧ (parseMethodDescriptor mX6_words.1.desc).map (fun d => d.parameters.length) = some 2 := by decide +kernel
theorem pn_X6_words : plainName mX6_words.1.cls = true := by decide +kernel
theorem pl_X6_word : mX6_word.1.cls ≠ "java/lang/invoke/MethodHandle" ∧ mX6_word.1.cls ≠ "java/lang/invoke/VarHandle" ∧ (parseMethodDescriptor mX6_word.1.desc).map (fun d => d.parameters.length) = some 3 := by decide +kernel
theorem pn_X6_word : plainName mX6_word.1.cls = true := by decide +kernel
theorem pl_X0_holds : mX0_holds.1.cls ≠ "java/lang/invoke/MethodHandle" ∧ mX0_holds.1.cls ≠ "java/lang/invoke/VarHandle" ∧ (parseMethodDescriptor mX0_holds.1.desc).map (fun d => d.parameters.length) = some 2 := by decide +kernel
theorem pn_X0_holds : plainName mX0_holds.1.cls = true := by decide +kernel
theorem pl_X0_exchange : mX0_exchange.1.cls ≠ "java/lang/invoke/MethodHandle" ∧ mX0_exchange.1.cls ≠ "java/lang/invoke/VarHandle" ∧ (parseMethodDescriptor mX0_exchange.1.desc).map (fun d => d.parameters.length) = some 2 := by decide +kernel
theorem pn_X0_exchange : plainName mX0_exchange.1.cls = true := by decide +kernel
theorem pl_X6_copy : mX6_copy.1.cls ≠ "java/lang/invoke/MethodHandle" ∧ mX6_copy.1.cls ≠ "java/lang/invoke/VarHandle" ∧ (parseMethodDescriptor mX6_copy.1.desc).map (fun d => d.parameters.length) = some 5 := by decide +kernel
theorem pn_X6_copy : plainName mX6_copy.1.cls = true := by decide +kernel
theorem pl_X0_take : mX0_take.1.cls ≠ "java/lang/invoke/MethodHandle" ∧ mX0_take.1.cls ≠ "java/lang/invoke/VarHandle" ∧ (parseMethodDescriptor mX0_take.1.desc).map (fun d => d.parameters.length) = some 4 := by decide +kernel
theorem pn_X0_take : plainName mX0_take.1.cls = true := by decide +kernel
theorem pl_X6_mean : mX6_mean.1.cls ≠ "java/lang/invoke/MethodHandle" ∧ mX6_mean.1.cls ≠ "java/lang/invoke/VarHandle" ∧ (parseMethodDescriptor mX6_mean.1.desc).map (fun d => d.parameters.length) = some 1 := by decide +kernel
theorem pn_X6_mean : plainName mX6_mean.1.cls = true := by decide +kernel
theorem pl_X0_allLetters : mX0_allLetters.1.cls ≠ "java/lang/invoke/MethodHandle" ∧ mX0_allLetters.1.cls ≠ "java/lang/invoke/VarHandle" ∧ (parseMethodDescriptor mX0_allLetters.1.desc).map (fun d => d.parameters.length) = some 0 := by decide +kernel
theorem pn_X0_allLetters : plainName mX0_allLetters.1.cls = true := by decide +kernel
theorem pl_X6_calls : mX6_calls.1.cls ≠ "java/lang/invoke/MethodHandle" ∧ mX6_calls.1.cls ≠ "java/lang/invoke/VarHandle" ∧ (parseMethodDescriptor mX6_calls.1.desc).map (fun d => d.parameters.length) = some 2 := by decide +kernel
theorem pn_X6_calls : plainName mX6_calls.1.cls = true := by decide +kernel
theorem pl_X6_fix : mX6_fix.1.cls ≠ "java/lang/invoke/MethodHandle" ∧ mX6_fix.1.cls ≠ "java/lang/invoke/VarHandle" ∧ (parseMethodDescriptor mX6_fix.1.desc).map (fun d => d.parameters.length) = some 2 := by decide +kernel
theorem pn_X6_fix : plainName mX6_fix.1.cls = true := by decide +kernel
theorem pl_X6_lines : mX6_lines.1.cls ≠ "java/lang/invoke/MethodHandle" ∧ mX6_lines.1.cls ≠ "java/lang/invoke/VarHandle" ∧ (parseMethodDescriptor mX6_lines.1.desc).map (fun d => d.parameters.length) = some 2 := by decide +kernel
theorem pn_X6_lines : plainName mX6_lines.1.cls = true := by decide +kernel
theorem pl_X0_linesIn : mX0_linesIn.1.cls ≠ "java/lang/invoke/MethodHandle" ∧ mX0_linesIn.1.cls ≠ "java/lang/invoke/VarHandle" ∧ (parseMethodDescriptor mX0_linesIn.1.desc).map (fun d => d.parameters.length) = some 1 := by decide +kernel
theorem pn_X0_linesIn : plainName mX0_linesIn.1.cls = true := by decide +kernel
theorem pl_X0_countLines : mX0_countLines.1.cls ≠ "java/lang/invoke/MethodHandle" ∧ mX0_countLines.1.cls ≠ "java/lang/invoke/VarHandle" ∧ (parseMethodDescriptor mX0_countLines.1.desc).map (fun d => d.parameters.length) = some 1 := by decide +kernel
theorem pn_X0_countLines : plainName mX0_countLines.1.cls = true := by decide +kernel
theorem pl_X6_want : mX6_want.1.cls ≠ "java/lang/invoke/MethodHandle" ∧ mX6_want.1.cls ≠ "java/lang/invoke/VarHandle" ∧ (parseMethodDescriptor mX6_want.1.desc).map (fun d => d.parameters.length) = some 2 := by decide +kernel
theorem pn_X6_want : plainName mX6_want.1.cls = true := by decide +kernel
theorem pl_X0_wanted : mX0_wanted.1.cls ≠ "java/lang/invoke/MethodHandle" ∧ mX0_wanted.1.cls ≠ "java/lang/invoke/VarHandle" ∧ (parseMethodDescriptor mX0_wanted.1.desc).map (fun d => d.parameters.length) = some 1 := by decide +kernel
theorem pn_X0_wanted : plainName mX0_wanted.1.cls = true := by decide +kernel
theorem pl_X0_longestPiece : mX0_longestPiece.1.cls ≠ "java/lang/invoke/MethodHandle" ∧ mX0_longestPiece.1.cls ≠ "java/lang/invoke/VarHandle" ∧ (parseMethodDescriptor mX0_longestPiece.1.desc).map (fun d => d.parameters.length) = some 0 := by decide +kernel
theorem pn_X0_longestPiece : plainName mX0_longestPiece.1.cls = true := by decide +kernel
theorem pl_X6_natural : mX6_natural.1.cls ≠ "java/lang/invoke/MethodHandle" ∧ mX6_natural.1.cls ≠ "java/lang/invoke/VarHandle" ∧ (parseMethodDescriptor mX6_natural.1.desc).map (fun d => d.parameters.length) = some 2 := by decide +kernel
theorem pn_X6_natural : plainName mX6_natural.1.cls = true := by decide +kernel
theorem pl_X5_measure : mX5_measure.1.cls ≠ "java/lang/invoke/MethodHandle" ∧ mX5_measure.1.cls ≠ "java/lang/invoke/VarHandle" ∧ (parseMethodDescriptor mX5_measure.1.desc).map (fun d => d.parameters.length) = some 0 := by decide +kernel
theorem pn_X5_measure : plainName mX5_measure.1.cls = true := by decide +kernel
theorem pl_X5_measureFor : mX5_measureFor.1.cls ≠ "java/lang/invoke/MethodHandle" ∧ mX5_measureFor.1.cls ≠ "java/lang/invoke/VarHandle" ∧ (parseMethodDescriptor mX5_measureFor.1.desc).map (fun d => d.parameters.length) = some 2 := by decide +kernel
theorem pn_X5_measureFor : plainName mX5_measureFor.1.cls = true := by decide +kernel
theorem pl_X1_spanOf : mX1_spanOf.1.cls ≠ "java/lang/invoke/MethodHandle" ∧ mX1_spanOf.1.cls ≠ "java/lang/invoke/VarHandle" ∧ (parseMethodDescriptor mX1_spanOf.1.desc).map (fun d => d.parameters.length) = some 2 := by decide +kernel
theorem pn_X1_spanOf : plainName mX1_spanOf.1.cls = true := by decide +kernel
theorem pl_X5_noteLack : mX5_noteLack.1.cls ≠ "java/lang/invoke/MethodHandle" ∧ mX5_noteLack.1.cls ≠ "java/lang/invoke/VarHandle" ∧ (parseMethodDescriptor mX5_noteLack.1.desc).map (fun d => d.parameters.length) = some 2 := by decide +kernel
theorem pn_X5_noteLack : plainName mX5_noteLack.1.cls = true := by decide +kernel
theorem pl_X4_divide : mX4_divide.1.cls ≠ "java/lang/invoke/MethodHandle" ∧ mX4_divide.1.cls ≠ "java/lang/invoke/VarHandle" ∧ (parseMethodDescriptor mX4_divide.1.desc).map (fun d => d.parameters.length) = some 4 := by decide +kernel
theorem pn_X4_divide : plainName mX4_divide.1.cls = true := by decide +kernel
theorem pl_X4_giveOne : mX4_giveOne.1.cls ≠ "java/lang/invoke/MethodHandle" ∧ mX4_giveOne.1.cls ≠ "java/lang/invoke/VarHandle" ∧ (parseMethodDescriptor mX4_giveOne.1.desc).map (fun d => d.parameters.length) = some 2 := by decide +kernel
theorem pn_X4_giveOne : plainName mX4_giveOne.1.cls = true := by decide +kernel
theorem pl_X5_addTo : mX5_addTo.1.cls ≠ "java/lang/invoke/MethodHandle" ∧ mX5_addTo.1.cls ≠ "java/lang/invoke/VarHandle" ∧ (parseMethodDescriptor mX5_addTo.1.desc).map (fun d => d.parameters.length) = some 2 := by decide +kernel
theorem pn_X5_addTo : plainName mX5_addTo.1.cls = true := by decide +kernel
theorem pl_X6_set : mX6_set.1.cls ≠ "java/lang/invoke/MethodHandle" ∧ mX6_set.1.cls ≠ "java/lang/invoke/VarHandle" ∧ (parseMethodDescriptor mX6_set.1.desc).map (fun d => d.parameters.length) = some 1 := by decide +kernel
theorem pn_X6_set : plainName mX6_set.1.cls = true := by decide +kernel
theorem pl_X5_spareOf : mX5_spareOf.1.cls ≠ "java/lang/invoke/MethodHandle" ∧ mX5_spareOf.1.cls ≠ "java/lang/invoke/VarHandle" ∧ (parseMethodDescriptor mX5_spareOf.1.desc).map (fun d => d.parameters.length) = some 1 := by decide +kernel
theorem pn_X5_spareOf : plainName mX5_spareOf.1.cls = true := by decide +kernel
theorem pl_X1_gaps : mX1_gaps.1.cls ≠ "java/lang/invoke/MethodHandle" ∧ mX1_gaps.1.cls ≠ "java/lang/invoke/VarHandle" ∧ (parseMethodDescriptor mX1_gaps.1.desc).map (fun d => d.parameters.length) = some 0 := by decide +kernel
theorem pn_X1_gaps : plainName mX1_gaps.1.cls = true := by decide +kernel
theorem pl_X5_sumOf : mX5_sumOf.1.cls ≠ "java/lang/invoke/MethodHandle" ∧ mX5_sumOf.1.cls ≠ "java/lang/invoke/VarHandle" ∧ (parseMethodDescriptor mX5_sumOf.1.desc).map (fun d => d.parameters.length) = some 1 := by decide +kernel
theorem pn_X5_sumOf : plainName mX5_sumOf.1.cls = true := by decide +kernel
theorem pl_X5_spread : mX5_spread.1.cls ≠ "java/lang/invoke/MethodHandle" ∧ mX5_spread.1.cls ≠ "java/lang/invoke/VarHandle" ∧ (parseMethodDescriptor mX5_spread.1.desc).map (fun d => d.parameters.length) = some 1 := by decide +kernel
theorem pn_X5_spread : plainName mX5_spread.1.cls = true := by decide +kernel
theorem pl_X6_heightOfTable : mX6_heightOfTable.1.cls ≠ "java/lang/invoke/MethodHandle" ∧ mX6_heightOfTable.1.cls ≠ "java/lang/invoke/VarHandle" ∧ (parseMethodDescriptor mX6_heightOfTable.1.desc).map (fun d => d.parameters.length) = some 0 := by decide +kernel
theorem pn_X6_heightOfTable : plainName mX6_heightOfTable.1.cls = true := by decide +kernel
theorem pl_X2_sortCells : mX2_sortCells.1.cls ≠ "java/lang/invoke/MethodHandle" ∧ mX2_sortCells.1.cls ≠ "java/lang/invoke/VarHandle" ∧ (parseMethodDescriptor mX2_sortCells.1.desc).map (fun d => d.parameters.length) = some 0 := by decide +kernel
theorem pn_X2_sortCells : plainName mX2_sortCells.1.cls = true := by decide +kernel
theorem pl_X2_measure : mX2_measure.1.cls ≠ "java/lang/invoke/MethodHandle" ∧ mX2_measure.1.cls ≠ "java/lang/invoke/VarHandle" ∧ (parseMethodDescriptor mX2_measure.1.desc).map (fun d => d.parameters.length) = some 1 := by decide +kernel
theorem pn_X2_measure : plainName mX2_measure.1.cls = true := by decide +kernel
theorem pl_X2_grow : mX2_grow.1.cls ≠ "java/lang/invoke/MethodHandle" ∧ mX2_grow.1.cls ≠ "java/lang/invoke/VarHandle" ∧ (parseMethodDescriptor mX2_grow.1.desc).map (fun d => d.parameters.length) = some 0 := by decide +kernel
theorem pn_X2_grow : plainName mX2_grow.1.cls = true := by decide +kernel
theorem pl_X2_noteLack : mX2_noteLack.1.cls ≠ "java/lang/invoke/MethodHandle" ∧ mX2_noteLack.1.cls ≠ "java/lang/invoke/VarHandle" ∧ (parseMethodDescriptor mX2_noteLack.1.desc).map (fun d => d.parameters.length) = some 2 := by decide +kernel
theorem pn_X2_noteLack : plainName mX2_noteLack.1.cls = true := by decide +kernel
theorem pl_X2_sum : mX2_sum.1.cls ≠ "java/lang/invoke/MethodHandle" ∧ mX2_sum.1.cls ≠ "java/lang/invoke/VarHandle" ∧ (parseMethodDescriptor mX2_sum.1.desc).map (fun d => d.parameters.length) = some 0 := by decide +kernel
theorem pn_X2_sum : plainName mX2_sum.1.cls = true := by decide +kernel
theorem pl_X6_tight : mX6_tight.1.cls ≠ "java/lang/invoke/MethodHandle" ∧ mX6_tight.1.cls ≠ "java/lang/invoke/VarHandle" ∧ (parseMethodDescriptor mX6_tight.1.desc).map (fun d => d.parameters.length) = some 2 := by decide +kernel
theorem pn_X6_tight : plainName mX6_tight.1.cls = true := by decide +kernel
theorem pl_X5_waysToSpread : mX5_waysToSpread.1.cls ≠ "java/lang/invoke/MethodHandle" ∧ mX5_waysToSpread.1.cls ≠ "java/lang/invoke/VarHandle" ∧ (parseMethodDescriptor mX5_waysToSpread.1.desc).map (fun d => d.parameters.length) = some 1 := by decide +kernel
theorem pn_X5_waysToSpread : plainName mX5_waysToSpread.1.cls = true := by decide +kernel
theorem pl_X5_tighten : mX5_tighten.1.cls ≠ "java/lang/invoke/MethodHandle" ∧ mX5_tighten.1.cls ≠ "java/lang/invoke/VarHandle" ∧ (parseMethodDescriptor mX5_tighten.1.desc).map (fun d => d.parameters.length) = some 2 := by decide +kernel
theorem pn_X5_tighten : plainName mX5_tighten.1.cls = true := by decide +kernel
theorem pl_X5_addToLast : mX5_addToLast.1.cls ≠ "java/lang/invoke/MethodHandle" ∧ mX5_addToLast.1.cls ≠ "java/lang/invoke/VarHandle" ∧ (parseMethodDescriptor mX5_addToLast.1.desc).map (fun d => d.parameters.length) = some 1 := by decide +kernel
theorem pn_X5_addToLast : plainName mX5_addToLast.1.cls = true := by decide +kernel
theorem pl_X5_tryNext : mX5_tryNext.1.cls ≠ "java/lang/invoke/MethodHandle" ∧ mX5_tryNext.1.cls ≠ "java/lang/invoke/VarHandle" ∧ (parseMethodDescriptor mX5_tryNext.1.desc).map (fun d => d.parameters.length) = some 0 := by decide +kernel
theorem pn_X5_tryNext : plainName mX5_tryNext.1.cls = true := by decide +kernel
theorem pl_X6_tries : mX6_tries.1.cls ≠ "java/lang/invoke/MethodHandle" ∧ mX6_tries.1.cls ≠ "java/lang/invoke/VarHandle" ∧ (parseMethodDescriptor mX6_tries.1.desc).map (fun d => d.parameters.length) = some 0 := by decide +kernel
theorem pn_X6_tries : plainName mX6_tries.1.cls = true := by decide +kernel
theorem pl_X6_width : mX6_width.1.cls ≠ "java/lang/invoke/MethodHandle" ∧ mX6_width.1.cls ≠ "java/lang/invoke/VarHandle" ∧ (parseMethodDescriptor mX6_width.1.desc).map (fun d => d.parameters.length) = some 1 := by decide +kernel
theorem pn_X6_width : plainName mX6_width.1.cls = true := by decide +kernel
theorem pl_X6_height : mX6_height.1.cls ≠ "java/lang/invoke/MethodHandle" ∧ mX6_height.1.cls ≠ "java/lang/invoke/VarHandle" ∧ (parseMethodDescriptor mX6_height.1.desc).map (fun d => d.parameters.length) = some 1 := by decide +kernel
theorem pn_X6_height : plainName mX6_height.1.cls = true := by decide +kernel
theorem pl_X6_pages : mX6_pages.1.cls ≠ "java/lang/invoke/MethodHandle" ∧ mX6_pages.1.cls ≠ "java/lang/invoke/VarHandle" ∧ (parseMethodDescriptor mX6_pages.1.desc).map (fun d => d.parameters.length) = some 1 := by decide +kernel
theorem pn_X6_pages : plainName mX6_pages.1.cls = true := by decide +kernel
theorem pl_X3_make : mX3_make.1.cls ≠ "java/lang/invoke/MethodHandle" ∧ mX3_make.1.cls ≠ "java/lang/invoke/VarHandle" ∧ (parseMethodDescriptor mX3_make.1.desc).map (fun d => d.parameters.length) = some 1 := by decide +kernel
theorem pn_X3_make : plainName mX3_make.1.cls = true := by decide +kernel
theorem pl_X1_headRows : mX1_headRows.1.cls ≠ "java/lang/invoke/MethodHandle" ∧ mX1_headRows.1.cls ≠ "java/lang/invoke/VarHandle" ∧ (parseMethodDescriptor mX1_headRows.1.desc).map (fun d => d.parameters.length) = some 0 := by decide +kernel
theorem pn_X1_headRows : plainName mX1_headRows.1.cls = true := by decide +kernel
theorem pl_X1_hasHead : mX1_hasHead.1.cls ≠ "java/lang/invoke/MethodHandle" ∧ mX1_hasHead.1.cls ≠ "java/lang/invoke/VarHandle" ∧ (parseMethodDescriptor mX1_hasHead.1.desc).map (fun d => d.parameters.length) = some 1 := by decide +kernel
theorem pn_X1_hasHead : plainName mX1_hasHead.1.cls = true := by decide +kernel
theorem pl_X0_liesOnRow : mX0_liesOnRow.1.cls ≠ "java/lang/invoke/MethodHandle" ∧ mX0_liesOnRow.1.cls ≠ "java/lang/invoke/VarHandle" ∧ (parseMethodDescriptor mX0_liesOnRow.1.desc).map (fun d => d.parameters.length) = some 1 := by decide +kernel
theorem pn_X0_liesOnRow : plainName mX0_liesOnRow.1.cls = true := by decide +kernel
theorem pl_X3_findHomes : mX3_findHomes.1.cls ≠ "java/lang/invoke/MethodHandle" ∧ mX3_findHomes.1.cls ≠ "java/lang/invoke/VarHandle" ∧ (parseMethodDescriptor mX3_findHomes.1.desc).map (fun d => d.parameters.length) = some 0 := by decide +kernel
theorem pn_X3_findHomes : plainName mX3_findHomes.1.cls = true := by decide +kernel
theorem pl_X1_firstCall : mX1_firstCall.1.cls ≠ "java/lang/invoke/MethodHandle" ∧ mX1_firstCall.1.cls ≠ "java/lang/invoke/VarHandle" ∧ (parseMethodDescriptor mX1_firstCall.1.desc).map (fun d => d.parameters.length) = some 1 := by decide +kernel
theorem pn_X1_firstCall : plainName mX1_firstCall.1.cls = true := by decide +kernel
theorem pl_X1_breaksAhead : mX1_breaksAhead.1.cls ≠ "java/lang/invoke/MethodHandle" ∧ mX1_breaksAhead.1.cls ≠ "java/lang/invoke/VarHandle" ∧ (parseMethodDescriptor mX1_breaksAhead.1.desc).map (fun d => d.parameters.length) = some 2 := by decide +kernel
theorem pn_X1_breaksAhead : plainName mX1_breaksAhead.1.cls = true := by decide +kernel
theorem pl_X3_planFrom : mX3_planFrom.1.cls ≠ "java/lang/invoke/MethodHandle" ∧ mX3_planFrom.1.cls ≠ "java/lang/invoke/VarHandle" ∧ (parseMethodDescriptor mX3_planFrom.1.desc).map (fun d => d.parameters.length) = some 1 := by decide +kernel
theorem pn_X3_planFrom : plainName mX3_planFrom.1.cls = true := by decide +kernel
theorem pl_X3_isAlone : mX3_isAlone.1.cls ≠ "java/lang/invoke/MethodHandle" ∧ mX3_isAlone.1.cls ≠ "java/lang/invoke/VarHandle" ∧ (parseMethodDescriptor mX3_isAlone.1.desc).map (fun d => d.parameters.length) = some 2 := by decide +kernel
theorem pn_X3_isAlone : plainName mX3_isAlone.1.cls = true := by decide +kernel
theorem pl_X3_weigh : mX3_weigh.1.cls ≠ "java/lang/invoke/MethodHandle" ∧ mX3_weigh.1.cls ≠ "java/lang/invoke/VarHandle" ∧ (parseMethodDescriptor mX3_weigh.1.desc).map (fun d => d.parameters.length) = some 3 := by decide +kernel
theorem pn_X3_weigh : plainName mX3_weigh.1.cls = true := by decide +kernel
theorem pl_X3_layOut : mX3_layOut.1.cls ≠ "java/lang/invoke/MethodHandle" ∧ mX3_layOut.1.cls ≠ "java/lang/invoke/VarHandle" ∧ (parseMethodDescriptor mX3_layOut.1.desc).map (fun d => d.parameters.length) = some 0 := by decide +kernel
theorem pn_X3_layOut : plainName mX3_layOut.1.cls = true := by decide +kernel
theorem pl_X6_page : mX6_page.1.cls ≠ "java/lang/invoke/MethodHandle" ∧ mX6_page.1.cls ≠ "java/lang/invoke/VarHandle" ∧ (parseMethodDescriptor mX6_page.1.desc).map (fun d => d.parameters.length) = some 2 := by decide +kernel
theorem pn_X6_page : plainName mX6_page.1.cls = true := by decide +kernel
theorem pl_X6_pageOf : mX6_pageOf.1.cls ≠ "java/lang/invoke/MethodHandle" ∧ mX6_pageOf.1.cls ≠ "java/lang/invoke/VarHandle" ∧ (parseMethodDescriptor mX6_pageOf.1.desc).map (fun d => d.parameters.length) = some 1 := by decide +kernel
theorem pn_X6_pageOf : plainName mX6_pageOf.1.cls = true := by decide +kernel
theorem pl_X3_holding : mX3_holding.1.cls ≠ "java/lang/invoke/MethodHandle" ∧ mX3_holding.1.cls ≠ "java/lang/invoke/VarHandle" ∧ (parseMethodDescriptor mX3_holding.1.desc).map (fun d => d.parameters.length) = some 1 := by decide +kernel
theorem pn_X3_holding : plainName mX3_holding.1.cls = true := by decide +kernel
theorem pl_X6_mayBreak : mX6_mayBreak.1.cls ≠ "java/lang/invoke/MethodHandle" ∧ mX6_mayBreak.1.cls ≠ "java/lang/invoke/VarHandle" ∧ (parseMethodDescriptor mX6_mayBreak.1.desc).map (fun d => d.parameters.length) = some 1 := by decide +kernel
theorem pn_X6_mayBreak : plainName mX6_mayBreak.1.cls = true := by decide +kernel
theorem pl_X6_count : mX6_count.1.cls ≠ "java/lang/invoke/MethodHandle" ∧ mX6_count.1.cls ≠ "java/lang/invoke/VarHandle" ∧ (parseMethodDescriptor mX6_count.1.desc).map (fun d => d.parameters.length) = some 1 := by decide +kernel
theorem pn_X6_count : plainName mX6_count.1.cls = true := by decide +kernel
theorem pl_X1_presentCells : mX1_presentCells.1.cls ≠ "java/lang/invoke/MethodHandle" ∧ mX1_presentCells.1.cls ≠ "java/lang/invoke/VarHandle" ∧ (parseMethodDescriptor mX1_presentCells.1.desc).map (fun d => d.parameters.length) = some 0 := by decide +kernel
theorem pn_X1_presentCells : plainName mX1_presentCells.1.cls = true := by decide +kernel
theorem pl_X6_finding : mX6_finding.1.cls ≠ "java/lang/invoke/MethodHandle" ∧ mX6_finding.1.cls ≠ "java/lang/invoke/VarHandle" ∧ (parseMethodDescriptor mX6_finding.1.desc).map (fun d => d.parameters.length) = some 0 := by decide +kernel
theorem pn_X6_finding : plainName mX6_finding.1.cls = true := by decide +kernel
theorem pl_X6_findings : mX6_findings.1.cls ≠ "java/lang/invoke/MethodHandle" ∧ mX6_findings.1.cls ≠ "java/lang/invoke/VarHandle" ∧ (parseMethodDescriptor mX6_findings.1.desc).map (fun d => d.parameters.length) = some 1 := by decide +kernel
theorem pn_X6_findings : plainName mX6_findings.1.cls = true := by decide +kernel
theorem pl_X6_digest : mX6_digest.1.cls ≠ "java/lang/invoke/MethodHandle" ∧ mX6_digest.1.cls ≠ "java/lang/invoke/VarHandle" ∧ (parseMethodDescriptor mX6_digest.1.desc).map (fun d => d.parameters.length) = some 0 := by decide +kernel
theorem pn_X6_digest : plainName mX6_digest.1.cls = true := by decide +kernel
theorem pl_X6_mixed : mX6_mixed.1.cls ≠ "java/lang/invoke/MethodHandle" ∧ mX6_mixed.1.cls ≠ "java/lang/invoke/VarHandle" ∧ (parseMethodDescriptor mX6_mixed.1.desc).map (fun d => d.parameters.length) = some 3 := by decide +kernel
theorem pn_X6_mixed : plainName mX6_mixed.1.cls = true := by decide +kernel
theorem pl_X6_mixedCell : mX6_mixedCell.1.cls ≠ "java/lang/invoke/MethodHandle" ∧ mX6_mixedCell.1.cls ≠ "java/lang/invoke/VarHandle" ∧ (parseMethodDescriptor mX6_mixedCell.1.desc).map (fun d => d.parameters.length) = some 2 := by decide +kernel
theorem pn_X6_mixedCell : plainName mX6_mixedCell.1.cls = true := by decide +kernel
theorem pl_X7_init : mX7_init.1.cls ≠ "java/lang/invoke/MethodHandle" ∧ mX7_init.1.cls ≠ "java/lang/invoke/VarHandle" ∧ (parseMethodDescriptor mX7_init.1.desc).map (fun d => d.parameters.length) = some 0 := by decide +kernel
theorem pn_X7_init : plainName mX7_init.1.cls = true := by decide +kernel
theorem pl_X7_begin : mX7_begin.1.cls ≠ "java/lang/invoke/MethodHandle" ∧ mX7_begin.1.cls ≠ "java/lang/invoke/VarHandle" ∧ (parseMethodDescriptor mX7_begin.1.desc).map (fun d => d.parameters.length) = some 3 := by decide +kernel
theorem pn_X7_begin : plainName mX7_begin.1.cls = true := by decide +kernel
theorem pl_X7_finding : mX7_finding.1.cls ≠ "java/lang/invoke/MethodHandle" ∧ mX7_finding.1.cls ≠ "java/lang/invoke/VarHandle" ∧ (parseMethodDescriptor mX7_finding.1.desc).map (fun d => d.parameters.length) = some 0 := by decide +kernel
theorem pn_X7_finding : plainName mX7_finding.1.cls = true := by decide +kernel
theorem pl_X7_findings : mX7_findings.1.cls ≠ "java/lang/invoke/MethodHandle" ∧ mX7_findings.1.cls ≠ "java/lang/invoke/VarHandle" ∧ (parseMethodDescriptor mX7_findings.1.desc).map (fun d => d.parameters.length) = some 1 := by decide +kernel
theorem pn_X7_findings : plainName mX7_findings.1.cls = true := by decide +kernel
theorem pl_X7_in : mX7_in.1.cls ≠ "java/lang/invoke/MethodHandle" ∧ mX7_in.1.cls ≠ "java/lang/invoke/VarHandle" ∧ (parseMethodDescriptor mX7_in.1.desc).map (fun d => d.parameters.length) = some 3 := by decide +kernel
theorem pn_X7_in : plainName mX7_in.1.cls = true := by decide +kernel
theorem pl_X7_table : mX7_table.1.cls ≠ "java/lang/invoke/MethodHandle" ∧ mX7_table.1.cls ≠ "java/lang/invoke/VarHandle" ∧ (parseMethodDescriptor mX7_table.1.desc).map (fun d => d.parameters.length) = some 3 := by decide +kernel
theorem pn_X7_table : plainName mX7_table.1.cls = true := by decide +kernel
theorem pl_X7_weight : mX7_weight.1.cls ≠ "java/lang/invoke/MethodHandle" ∧ mX7_weight.1.cls ≠ "java/lang/invoke/VarHandle" ∧ (parseMethodDescriptor mX7_weight.1.desc).map (fun d => d.parameters.length) = some 2 := by decide +kernel
theorem pn_X7_weight : plainName mX7_weight.1.cls = true := by decide +kernel
theorem pl_X7_isColumn : mX7_isColumn.1.cls ≠ "java/lang/invoke/MethodHandle" ∧ mX7_isColumn.1.cls ≠ "java/lang/invoke/VarHandle" ∧ (parseMethodDescriptor mX7_isColumn.1.desc).map (fun d => d.parameters.length) = some 1 := by decide +kernel
theorem pn_X7_isColumn : plainName mX7_isColumn.1.cls = true := by decide +kernel
theorem pl_X7_note : mX7_note.1.cls ≠ "java/lang/invoke/MethodHandle" ∧ mX7_note.1.cls ≠ "java/lang/invoke/VarHandle" ∧ (parseMethodDescriptor mX7_note.1.desc).map (fun d => d.parameters.length) = some 2 := by decide +kernel
theorem pn_X7_note : plainName mX7_note.1.cls = true := by decide +kernel
theorem pl_X7_cell : mX7_cell.1.cls ≠ "java/lang/invoke/MethodHandle" ∧ mX7_cell.1.cls ≠ "java/lang/invoke/VarHandle" ∧ (parseMethodDescriptor mX7_cell.1.desc).map (fun d => d.parameters.length) = some 5 := by decide +kernel
theorem pn_X7_cell : plainName mX7_cell.1.cls = true := by decide +kernel
theorem pl_X7_isRow : mX7_isRow.1.cls ≠ "java/lang/invoke/MethodHandle" ∧ mX7_isRow.1.cls ≠ "java/lang/invoke/VarHandle" ∧ (parseMethodDescriptor mX7_isRow.1.desc).map (fun d => d.parameters.length) = some 1 := by decide +kernel
theorem pn_X7_isRow : plainName mX7_isRow.1.cls = true := by decide +kernel
theorem pl_X7_meets : mX7_meets.1.cls ≠ "java/lang/invoke/MethodHandle" ∧ mX7_meets.1.cls ≠ "java/lang/invoke/VarHandle" ∧ (parseMethodDescriptor mX7_meets.1.desc).map (fun d => d.parameters.length) = some 1 := by decide +kernel
theorem pn_X7_meets : plainName mX7_meets.1.cls = true := by decide +kernel
theorem pl_X7_cellOn : mX7_cellOn.1.cls ≠ "java/lang/invoke/MethodHandle" ∧ mX7_cellOn.1.cls ≠ "java/lang/invoke/VarHandle" ∧ (parseMethodDescriptor mX7_cellOn.1.desc).map (fun d => d.parameters.length) = some 2 := by decide +kernel
theorem pn_X7_cellOn : plainName mX7_cellOn.1.cls = true := by decide +kernel
theorem pl_X7_liesOn : mX7_liesOn.1.cls ≠ "java/lang/invoke/MethodHandle" ∧ mX7_liesOn.1.cls ≠ "java/lang/invoke/VarHandle" ∧ (parseMethodDescriptor mX7_liesOn.1.desc).map (fun d => d.parameters.length) = some 3 := by decide +kernel
theorem pn_X7_liesOn : plainName mX7_liesOn.1.cls = true := by decide +kernel
theorem pl_X7_clash : mX7_clash.1.cls ≠ "java/lang/invoke/MethodHandle" ∧ mX7_clash.1.cls ≠ "java/lang/invoke/VarHandle" ∧ (parseMethodDescriptor mX7_clash.1.desc).map (fun d => d.parameters.length) = some 0 := by decide +kernel
theorem pn_X7_clash : plainName mX7_clash.1.cls = true := by decide +kernel
theorem pl_X7_drop : mX7_drop.1.cls ≠ "java/lang/invoke/MethodHandle" ∧ mX7_drop.1.cls ≠ "java/lang/invoke/VarHandle" ∧ (parseMethodDescriptor mX7_drop.1.desc).map (fun d => d.parameters.length) = some 1 := by decide +kernel
theorem pn_X7_drop : plainName mX7_drop.1.cls = true := by decide +kernel
theorem pl_X7_isCell : mX7_isCell.1.cls ≠ "java/lang/invoke/MethodHandle" ∧ mX7_isCell.1.cls ≠ "java/lang/invoke/VarHandle" ∧ (parseMethodDescriptor mX7_isCell.1.desc).map (fun d => d.parameters.length) = some 1 := by decide +kernel
theorem pn_X7_isCell : plainName mX7_isCell.1.cls = true := by decide +kernel
theorem pl_X7_told : mX7_told.1.cls ≠ "java/lang/invoke/MethodHandle" ∧ mX7_told.1.cls ≠ "java/lang/invoke/VarHandle" ∧ (parseMethodDescriptor mX7_told.1.desc).map (fun d => d.parameters.length) = some 2 := by decide +kernel
theorem pn_X7_told : plainName mX7_told.1.cls = true := by decide +kernel
theorem pl_X7_need : mX7_need.1.cls ≠ "java/lang/invoke/MethodHandle" ∧ mX7_need.1.cls ≠ "java/lang/invoke/VarHandle" ∧ (parseMethodDescriptor mX7_need.1.desc).map (fun d => d.parameters.length) = some 2 := by decide +kernel
theorem pn_X7_need : plainName mX7_need.1.cls = true := by decide +kernel
theorem pl_X7_toldOf : mX7_toldOf.1.cls ≠ "java/lang/invoke/MethodHandle" ∧ mX7_toldOf.1.cls ≠ "java/lang/invoke/VarHandle" ∧ (parseMethodDescriptor mX7_toldOf.1.desc).map (fun d => d.parameters.length) = some 2 := by decide +kernel
theorem pn_X7_toldOf : plainName mX7_toldOf.1.cls = true := by decide +kernel
theorem pl_X7_is : mX7_is.1.cls ≠ "java/lang/invoke/MethodHandle" ∧ mX7_is.1.cls ≠ "java/lang/invoke/VarHandle" ∧ (parseMethodDescriptor mX7_is.1.desc).map (fun d => d.parameters.length) = some 2 := by decide +kernel
theorem pn_X7_is : plainName mX7_is.1.cls = true := by decide +kernel
theorem pl_X7_on : mX7_on.1.cls ≠ "java/lang/invoke/MethodHandle" ∧ mX7_on.1.cls ≠ "java/lang/invoke/VarHandle" ∧ (parseMethodDescriptor mX7_on.1.desc).map (fun d => d.parameters.length) = some 2 := by decide +kernel
theorem pn_X7_on : plainName mX7_on.1.cls = true := by decide +kernel
theorem pl_X7_words : mX7_words.1.cls ≠ "java/lang/invoke/MethodHandle" ∧ mX7_words.1.cls ≠ "java/lang/invoke/VarHandle" ∧ (parseMethodDescriptor mX7_words.1.desc).map (fun d => d.parameters.length) = some 2 := by decide +kernel
theorem pn_X7_words : plainName mX7_words.1.cls = true := by decide +kernel
theorem pl_X7_word : mX7_word.1.cls ≠ "java/lang/invoke/MethodHandle" ∧ mX7_word.1.cls ≠ "java/lang/invoke/VarHandle" ∧ (parseMethodDescriptor mX7_word.1.desc).map (fun d => d.parameters.length) = some 3 := by decide +kernel
theorem pn_X7_word : plainName mX7_word.1.cls = true := by decide +kernel
theorem pl_X7_copy : mX7_copy.1.cls ≠ "java/lang/invoke/MethodHandle" ∧ mX7_copy.1.cls ≠ "java/lang/invoke/VarHandle" ∧ (parseMethodDescriptor mX7_copy.1.desc).map (fun d => d.parameters.length) = some 5 := by decide +kernel
theorem pn_X7_copy : plainName mX7_copy.1.cls = true := by decide +kernel
theorem pl_X7_mean : mX7_mean.1.cls ≠ "java/lang/invoke/MethodHandle" ∧ mX7_mean.1.cls ≠ "java/lang/invoke/VarHandle" ∧ (parseMethodDescriptor mX7_mean.1.desc).map (fun d => d.parameters.length) = some 1 := by decide +kernel
theorem pn_X7_mean : plainName mX7_mean.1.cls = true := by decide +kernel
theorem pl_X7_lettersOf : mX7_lettersOf.1.cls ≠ "java/lang/invoke/MethodHandle" ∧ mX7_lettersOf.1.cls ≠ "java/lang/invoke/VarHandle" ∧ (parseMethodDescriptor mX7_lettersOf.1.desc).map (fun d => d.parameters.length) = some 1 := by decide +kernel
theorem pn_X7_lettersOf : plainName mX7_lettersOf.1.cls = true := by decide +kernel
theorem pl_X7_calls : mX7_calls.1.cls ≠ "java/lang/invoke/MethodHandle" ∧ mX7_calls.1.cls ≠ "java/lang/invoke/VarHandle" ∧ (parseMethodDescriptor mX7_calls.1.desc).map (fun d => d.parameters.length) = some 2 := by decide +kernel
theorem pn_X7_calls : plainName mX7_calls.1.cls = true := by decide +kernel
theorem pl_X7_fix : mX7_fix.1.cls ≠ "java/lang/invoke/MethodHandle" ∧ mX7_fix.1.cls ≠ "java/lang/invoke/VarHandle" ∧ (parseMethodDescriptor mX7_fix.1.desc).map (fun d => d.parameters.length) = some 2 := by decide +kernel
theorem pn_X7_fix : plainName mX7_fix.1.cls = true := by decide +kernel
theorem pl_X7_lines : mX7_lines.1.cls ≠ "java/lang/invoke/MethodHandle" ∧ mX7_lines.1.cls ≠ "java/lang/invoke/VarHandle" ∧ (parseMethodDescriptor mX7_lines.1.desc).map (fun d => d.parameters.length) = some 2 := by decide +kernel
theorem pn_X7_lines : plainName mX7_lines.1.cls = true := by decide +kernel
theorem pl_X7_linesOf : mX7_linesOf.1.cls ≠ "java/lang/invoke/MethodHandle" ∧ mX7_linesOf.1.cls ≠ "java/lang/invoke/VarHandle" ∧ (parseMethodDescriptor mX7_linesOf.1.desc).map (fun d => d.parameters.length) = some 2 := by decide +kernel
theorem pn_X7_linesOf : plainName mX7_linesOf.1.cls = true := by decide +kernel
theorem pl_X7_want : mX7_want.1.cls ≠ "java/lang/invoke/MethodHandle" ∧ mX7_want.1.cls ≠ "java/lang/invoke/VarHandle" ∧ (parseMethodDescriptor mX7_want.1.desc).map (fun d => d.parameters.length) = some 2 := by decide +kernel
theorem pn_X7_want : plainName mX7_want.1.cls = true := by decide +kernel
theorem pl_X7_wantOf : mX7_wantOf.1.cls ≠ "java/lang/invoke/MethodHandle" ∧ mX7_wantOf.1.cls ≠ "java/lang/invoke/VarHandle" ∧ (parseMethodDescriptor mX7_wantOf.1.desc).map (fun d => d.parameters.length) = some 2 := by decide +kernel
theorem pn_X7_wantOf : plainName mX7_wantOf.1.cls = true := by decide +kernel
theorem pl_X7_natural : mX7_natural.1.cls ≠ "java/lang/invoke/MethodHandle" ∧ mX7_natural.1.cls ≠ "java/lang/invoke/VarHandle" ∧ (parseMethodDescriptor mX7_natural.1.desc).map (fun d => d.parameters.length) = some 2 := by decide +kernel
theorem pn_X7_natural : plainName mX7_natural.1.cls = true := by decide +kernel
theorem pl_X7_layBoth : mX7_layBoth.1.cls ≠ "java/lang/invoke/MethodHandle" ∧ mX7_layBoth.1.cls ≠ "java/lang/invoke/VarHandle" ∧ (parseMethodDescriptor mX7_layBoth.1.desc).map (fun d => d.parameters.length) = some 0 := by decide +kernel
theorem pn_X7_layBoth : plainName mX7_layBoth.1.cls = true := by decide +kernel
theorem pl_X7_layWidths : mX7_layWidths.1.cls ≠ "java/lang/invoke/MethodHandle" ∧ mX7_layWidths.1.cls ≠ "java/lang/invoke/VarHandle" ∧ (parseMethodDescriptor mX7_layWidths.1.desc).map (fun d => d.parameters.length) = some 2 := by decide +kernel
theorem pn_X7_layWidths : plainName mX7_layWidths.1.cls = true := by decide +kernel
theorem pl_X7_widthOver : mX7_widthOver.1.cls ≠ "java/lang/invoke/MethodHandle" ∧ mX7_widthOver.1.cls ≠ "java/lang/invoke/VarHandle" ∧ (parseMethodDescriptor mX7_widthOver.1.desc).map (fun d => d.parameters.length) = some 3 := by decide +kernel
theorem pn_X7_widthOver : plainName mX7_widthOver.1.cls = true := by decide +kernel
theorem pl_X7_lacks : mX7_lacks.1.cls ≠ "java/lang/invoke/MethodHandle" ∧ mX7_lacks.1.cls ≠ "java/lang/invoke/VarHandle" ∧ (parseMethodDescriptor mX7_lacks.1.desc).map (fun d => d.parameters.length) = some 3 := by decide +kernel
theorem pn_X7_lacks : plainName mX7_lacks.1.cls = true := by decide +kernel
theorem pl_X7_share : mX7_share.1.cls ≠ "java/lang/invoke/MethodHandle" ∧ mX7_share.1.cls ≠ "java/lang/invoke/VarHandle" ∧ (parseMethodDescriptor mX7_share.1.desc).map (fun d => d.parameters.length) = some 3 := by decide +kernel
theorem pn_X7_share : plainName mX7_share.1.cls = true := by decide +kernel
theorem pl_X7_set : mX7_set.1.cls ≠ "java/lang/invoke/MethodHandle" ∧ mX7_set.1.cls ≠ "java/lang/invoke/VarHandle" ∧ (parseMethodDescriptor mX7_set.1.desc).map (fun d => d.parameters.length) = some 1 := by decide +kernel
theorem pn_X7_set : plainName mX7_set.1.cls = true := by decide +kernel
theorem pl_X7_sumOf : mX7_sumOf.1.cls ≠ "java/lang/invoke/MethodHandle" ∧ mX7_sumOf.1.cls ≠ "java/lang/invoke/VarHandle" ∧ (parseMethodDescriptor mX7_sumOf.1.desc).map (fun d => d.parameters.length) = some 1 := by decide +kernel
theorem pn_X7_sumOf : plainName mX7_sumOf.1.cls = true := by decide +kernel
theorem pl_X7_heightBy : mX7_heightBy.1.cls ≠ "java/lang/invoke/MethodHandle" ∧ mX7_heightBy.1.cls ≠ "java/lang/invoke/VarHandle" ∧ (parseMethodDescriptor mX7_heightBy.1.desc).map (fun d => d.parameters.length) = some 1 := by decide +kernel
theorem pn_X7_heightBy : plainName mX7_heightBy.1.cls = true := by decide +kernel
theorem pl_X7_layHeights : mX7_layHeights.1.cls ≠ "java/lang/invoke/MethodHandle" ∧ mX7_layHeights.1.cls ≠ "java/lang/invoke/VarHandle" ∧ (parseMethodDescriptor mX7_layHeights.1.desc).map (fun d => d.parameters.length) = some 1 := by decide +kernel
theorem pn_X7_layHeights : plainName mX7_layHeights.1.cls = true := by decide +kernel
theorem pl_X7_tight : mX7_tight.1.cls ≠ "java/lang/invoke/MethodHandle" ∧ mX7_tight.1.cls ≠ "java/lang/invoke/VarHandle" ∧ (parseMethodDescriptor mX7_tight.1.desc).map (fun d => d.parameters.length) = some 2 := by decide +kernel
theorem pn_X7_tight : plainName mX7_tight.1.cls = true := by decide +kernel
theorem pl_X7_next : mX7_next.1.cls ≠ "java/lang/invoke/MethodHandle" ∧ mX7_next.1.cls ≠ "java/lang/invoke/VarHandle" ∧ (parseMethodDescriptor mX7_next.1.desc).map (fun d => d.parameters.length) = some 0 := by decide +kernel
theorem pn_X7_next : plainName mX7_next.1.cls = true := by decide +kernel
theorem pl_X7_tries : mX7_tries.1.cls ≠ "java/lang/invoke/MethodHandle" ∧ mX7_tries.1.cls ≠ "java/lang/invoke/VarHandle" ∧ (parseMethodDescriptor mX7_tries.1.desc).map (fun d => d.parameters.length) = some 0 := by decide +kernel
theorem pn_X7_tries : plainName mX7_tries.1.cls = true := by decide +kernel
theorem pl_X7_width : mX7_width.1.cls ≠ "java/lang/invoke/MethodHandle" ∧ mX7_width.1.cls ≠ "java/lang/invoke/VarHandle" ∧ (parseMethodDescriptor mX7_width.1.desc).map (fun d => d.parameters.length) = some 1 := by decide +kernel
theorem pn_X7_width : plainName mX7_width.1.cls = true := by decide +kernel
theorem pl_X7_height : mX7_height.1.cls ≠ "java/lang/invoke/MethodHandle" ∧ mX7_height.1.cls ≠ "java/lang/invoke/VarHandle" ∧ (parseMethodDescriptor mX7_height.1.desc).map (fun d => d.parameters.length) = some 1 := by decide +kernel
theorem pn_X7_height : plainName mX7_height.1.cls = true := by decide +kernel
theorem pl_X7_mayBreak : mX7_mayBreak.1.cls ≠ "java/lang/invoke/MethodHandle" ∧ mX7_mayBreak.1.cls ≠ "java/lang/invoke/VarHandle" ∧ (parseMethodDescriptor mX7_mayBreak.1.desc).map (fun d => d.parameters.length) = some 1 := by decide +kernel
theorem pn_X7_mayBreak : plainName mX7_mayBreak.1.cls = true := by decide +kernel
theorem pl_X7_mayBreakAt : mX7_mayBreakAt.1.cls ≠ "java/lang/invoke/MethodHandle" ∧ mX7_mayBreakAt.1.cls ≠ "java/lang/invoke/VarHandle" ∧ (parseMethodDescriptor mX7_mayBreakAt.1.desc).map (fun d => d.parameters.length) = some 1 := by decide +kernel
theorem pn_X7_mayBreakAt : plainName mX7_mayBreakAt.1.cls = true := by decide +kernel
theorem pl_X7_headRows : mX7_headRows.1.cls ≠ "java/lang/invoke/MethodHandle" ∧ mX7_headRows.1.cls ≠ "java/lang/invoke/VarHandle" ∧ (parseMethodDescriptor mX7_headRows.1.desc).map (fun d => d.parameters.length) = some 0 := by decide +kernel
theorem pn_X7_headRows : plainName mX7_headRows.1.cls = true := by decide +kernel
theorem pl_X7_pages : mX7_pages.1.cls ≠ "java/lang/invoke/MethodHandle" ∧ mX7_pages.1.cls ≠ "java/lang/invoke/VarHandle" ∧ (parseMethodDescriptor mX7_pages.1.desc).map (fun d => d.parameters.length) = some 1 := by decide +kernel
theorem pn_X7_pages : plainName mX7_pages.1.cls = true := by decide +kernel
theorem pl_X7_emptyOf : mX7_emptyOf.1.cls ≠ "java/lang/invoke/MethodHandle" ∧ mX7_emptyOf.1.cls ≠ "java/lang/invoke/VarHandle" ∧ (parseMethodDescriptor mX7_emptyOf.1.desc).map (fun d => d.parameters.length) = some 4 := by decide +kernel
theorem pn_X7_emptyOf : plainName mX7_emptyOf.1.cls = true := by decide +kernel
theorem pl_X7_notesOn : mX7_notesOn.1.cls ≠ "java/lang/invoke/MethodHandle" ∧ mX7_notesOn.1.cls ≠ "java/lang/invoke/VarHandle" ∧ (parseMethodDescriptor mX7_notesOn.1.desc).map (fun d => d.parameters.length) = some 3 := by decide +kernel
theorem pn_X7_notesOn : plainName mX7_notesOn.1.cls = true := by decide +kernel
theorem pl_X7_homeOf : mX7_homeOf.1.cls ≠ "java/lang/invoke/MethodHandle" ∧ mX7_homeOf.1.cls ≠ "java/lang/invoke/VarHandle" ∧ (parseMethodDescriptor mX7_homeOf.1.desc).map (fun d => d.parameters.length) = some 2 := by decide +kernel
theorem pn_X7_homeOf : plainName mX7_homeOf.1.cls = true := by decide +kernel
theorem pl_X7_page : mX7_page.1.cls ≠ "java/lang/invoke/MethodHandle" ∧ mX7_page.1.cls ≠ "java/lang/invoke/VarHandle" ∧ (parseMethodDescriptor mX7_page.1.desc).map (fun d => d.parameters.length) = some 2 := by decide +kernel
theorem pn_X7_page : plainName mX7_page.1.cls = true := by decide +kernel
theorem pl_X7_pageTold : mX7_pageTold.1.cls ≠ "java/lang/invoke/MethodHandle" ∧ mX7_pageTold.1.cls ≠ "java/lang/invoke/VarHandle" ∧ (parseMethodDescriptor mX7_pageTold.1.desc).map (fun d => d.parameters.length) = some 2 := by decide +kernel
theorem pn_X7_pageTold : plainName mX7_pageTold.1.cls = true := by decide +kernel
theorem pl_X7_pageOf : mX7_pageOf.1.cls ≠ "java/lang/invoke/MethodHandle" ∧ mX7_pageOf.1.cls ≠ "java/lang/invoke/VarHandle" ∧ (parseMethodDescriptor mX7_pageOf.1.desc).map (fun d => d.parameters.length) = some 1 := by decide +kernel
theorem pn_X7_pageOf : plainName mX7_pageOf.1.cls = true := by decide +kernel
theorem pl_X7_count : mX7_count.1.cls ≠ "java/lang/invoke/MethodHandle" ∧ mX7_count.1.cls ≠ "java/lang/invoke/VarHandle" ∧ (parseMethodDescriptor mX7_count.1.desc).map (fun d => d.parameters.length) = some 1 := by decide +kernel
theorem pn_X7_count : plainName mX7_count.1.cls = true := by decide +kernel
theorem pl_X7_digest : mX7_digest.1.cls ≠ "java/lang/invoke/MethodHandle" ∧ mX7_digest.1.cls ≠ "java/lang/invoke/VarHandle" ∧ (parseMethodDescriptor mX7_digest.1.desc).map (fun d => d.parameters.length) = some 0 := by decide +kernel
theorem pn_X7_digest : plainName mX7_digest.1.cls = true := by decide +kernel
theorem pl_X7_digestCell : mX7_digestCell.1.cls ≠ "java/lang/invoke/MethodHandle" ∧ mX7_digestCell.1.cls ≠ "java/lang/invoke/VarHandle" ∧ (parseMethodDescriptor mX7_digestCell.1.desc).map (fun d => d.parameters.length) = some 2 := by decide +kernel
theorem pn_X7_digestCell : plainName mX7_digestCell.1.cls = true := by decide +kernel
theorem cb_m9 : (Int8.ofInt (-9)).toInt32 = -9 := by decide
theorem cb_m6 : (Int8.ofInt (-6)).toInt32 = -6 := by decide
theorem cb_m4 : (Int8.ofInt (-4)).toInt32 = -4 := by decide
theorem cb_m3 : (Int8.ofInt (-3)).toInt32 = -3 := by decide
theorem cb_m2 : (Int8.ofInt (-2)).toInt32 = -2 := by decide
theorem cb_6 : (Int8.ofInt (6)).toInt32 = 6 := by decide
theorem cb_7 : (Int8.ofInt (7)).toInt32 = 7 := by decide
theorem cb_9 : (Int8.ofInt (9)).toInt32 = 9 := by decide
theorem cb_10 : (Int8.ofInt (10)).toInt32 = 10 := by decide
theorem cb_12 : (Int8.ofInt (12)).toInt32 = 12 := by decide
theorem cb_16 : (Int8.ofInt (16)).toInt32 = 16 := by decide
theorem cb_17 : (Int8.ofInt (17)).toInt32 = 17 := by decide
theorem cb_20 : (Int8.ofInt (20)).toInt32 = 20 := by decide
theorem cb_31 : (Int8.ofInt (31)).toInt32 = 31 := by decide
theorem cb_40 : (Int8.ofInt (40)).toInt32 = 40 := by decide
theorem cb_60 : (Int8.ofInt (60)).toInt32 = 60 := by decide
theorem cs_200 : (Int16.ofInt (200)).toInt32 = 200 := by decide
theorem cs_252 : (Int16.ofInt (252)).toInt32 = 252 := by decide
theorem cs_400 : (Int16.ofInt (400)).toInt32 = 400 := by decide
theorem cs_480 : (Int16.ofInt (480)).toInt32 = 480 := by decide
theorem cs_1023 : (Int16.ofInt (1023)).toInt32 = 1023 := by decide
theorem cs_20000 : (Int16.ofInt (20000)).toInt32 = 20000 := by decide
theorem ci_m1 : Int32.ofInt (-1) = -1 := by decide
theorem ci_0 : Int32.ofInt (0) = 0 := by decide
theorem ci_1 : Int32.ofInt (1) = 1 := by decide
theorem ci_2 : Int32.ofInt (2) = 2 := by decide
theorem ci_3 : Int32.ofInt (3) = 3 := by decide
theorem ci_4 : Int32.ofInt (4) = 4 := by decide
theorem ci_5 : Int32.ofInt (5) = 5 := by decide
theorem cl_0 : Int64.ofNat (0 : Nat) = 0 := by decide
theorem cl_1 : Int64.ofNat (1 : Nat) = 1 := by decide
theorem lt_C {i : Nat} (h : i < 40) : cA i < 197 := by unfold cA; omega
theorem lt_L {i : Nat} (h : i < 40) : cA i + 1 < 197 := by unfold cA; omega
theorem lt_K {i : Nat} (h : i < 40) : cA i + 2 < 197 := by unfold cA; omega
theorem lt_F {i : Nat} (h : i < 16) : 141 + i < 197 := by omega
