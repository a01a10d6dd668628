/-! THE METHODS, by number: name, code, locals, answer, receiver's class, is it a constructor (written by wip/whole/gen.py) -/
def ll_names : List (MethodName × ByteArray × Nat × Option FieldType × Option Nat × Bool) := [
  (yX0_init, cX0_init, 4, none, some 0, true),
  (yX0_look, cX0_look, 5, none, some 0, false),
  (yX0_startsWell, cX0_startsWell, 1, (some .boolean), some 0, false),
  (yX0_reasonOf, cX0_reasonOf, 5, (some .int), some 0, false),
  (yX0_isMember, cX0_isMember, 4, (some .boolean), some 0, false),
  (yX0_premisesAreLines, cX0_premisesAreLines, 3, (some .boolean), some 0, false),
  (yX0_partsAreProved, cX0_partsAreProved, 8, (some .boolean), some 0, false),
  (yX0_hasPremiseFor, cX0_hasPremiseFor, 6, (some .boolean), some 0, false),
  (yX1_init, cX1_init, 1, none, some 1, true),
  (yX1_clear, cX1_clear, 1, none, some 1, false),
  (yX1_isLine, cX1_isLine, 2, (some .boolean), some 1, false),
  (yX1_isPremise, cX1_isPremise, 3, (some .boolean), some 1, false),
  (yX1_premiseOf, cX1_premiseOf, 3, (some .int), some 1, false),
  (yX1_addLine, cX1_addLine, 4, (some .int), some 1, false),
  (yX1_openPremises, cX1_openPremises, 2, none, some 1, false),
  (yX1_addPremise, cX1_addPremise, 3, none, some 1, false),
  (yX1_dropPremises, cX1_dropPremises, 2, none, some 1, false),
  (yX1_dropLast, cX1_dropLast, 1, (some .int), some 1, false),
  (yX1_ofRule, cX1_ofRule, 4, (some .int), some 1, false),
  (yX1_premisesOfNone, cX1_premisesOfNone, 3, (some .int), some 1, false),
  (yX1_become, cX1_become, 2, none, some 1, false),
  (yX2_init, cX2_init, 3, none, some 2, true),
  (yX2_read, cX2_read, 4, (some .int), some 2, false),
  (yX2_readSum, cX2_readSum, 5, (some .int), some 2, false),
  (yX2_readProduct, cX2_readProduct, 5, (some .int), some 2, false),
  (yX2_readFactor, cX2_readFactor, 4, (some .int), some 2, false),
  (yX2_readAtom, cX2_readAtom, 4, (some .int), some 2, false),
  (yX2_next, cX2_next, 1, (some .int), some 2, false),
  (yX2_beginsAtom, cX2_beginsAtom, 1, (some .boolean), none, false),
  (yX3_init, cX3_init, 2, none, some 3, true),
  (yX3_become, cX3_become, 3, none, some 3, false),
  (yX4_init, cX4_init, 4, none, some 4, true),
  (yX4_run, cX4_run, 6, (some .int), some 4, false),
  (yX4_takeTurn, cX4_takeTurn, 4, (some .int), some 4, false),
  (yX4_step, cX4_step, 9, (some .boolean), some 4, false),
  (yX4_lineFor, cX4_lineFor, 7, (some .int), some 4, false),
  (yX4_comeTo, cX4_comeTo, 6, (some .int), some 4, false),
  (yX4_tellApart, cX4_tellApart, 5, none, some 4, false),
  (yX5_init, cX5_init, 1, none, some 5, true),
  (yX5_clear, cX5_clear, 1, none, some 5, false),
  (yX5_openTerm, cX5_openTerm, 2, none, some 5, false),
  (yX5_openParts, cX5_openParts, 2, none, some 5, false),
  (yX5_addPart, cX5_addPart, 3, none, some 5, false),
  (yX5_closeTerm, cX5_closeTerm, 1, none, some 5, false),
  (yX5_become, cX5_become, 3, none, some 5, false),
  (yX5_isTerm, cX5_isTerm, 2, (some .boolean), some 5, false),
  (yX5_isSet, cX5_isSet, 2, (some .boolean), some 5, false),
  (yX5_anyFull, cX5_anyFull, 2, (some .boolean), some 5, false),
  (yX5_lettersSpelt, cX5_lettersSpelt, 3, (some .int), some 5, false),
  (yX5_termBytes, cX5_termBytes, 2, (some .int), some 5, false),
  (yX5_termByte, cX5_termByte, 3, (some .int), some 5, false),
  (yX5_partSet, cX5_partSet, 3, (some .int), some 5, false),
  (yX5_partsOf, cX5_partsOf, 4, (some .int), some 5, false),
  (yX5_partOf, cX5_partOf, 4, (some .int), some 5, false),
  (yX5_partsOfSet, cX5_partsOfSet, 5, (some .int), some 5, false),
  (yX5_alikeTerm, cX5_alikeTerm, 4, (some .int), some 5, false),
  (yX5_isLetter, cX5_isLetter, 1, (some .boolean), none, false),
  (yX5_signsStart, cX5_signsStart, 2, (some .int), some 5, false),
  (yX5_isAlike, cX5_isAlike, 8, (some .boolean), some 5, false),
  (yX6_init, cX6_init, 2, none, some 6, true),
  (yX6_speltBytes, cX6_speltBytes, 2, (some .int), some 6, false),
  (yX6_findTerms, cX6_findTerms, 5, none, some 6, false),
  (yX6_tellTerm, cX6_tellTerm, 7, none, some 6, false),
  (yX6_findParts, cX6_findParts, 5, none, some 6, false),
  (yX6_gatherFactors, cX6_gatherFactors, 7, none, some 6, false),
  (yX6_gatherNode, cX6_gatherNode, 6, none, some 6, false),
  (yX6_pushFactors, cX6_pushFactors, 3, none, some 6, false),
  (yX6_push, cX6_push, 2, none, some 6, false),
  (yX6_numberOfTerm, cX6_numberOfTerm, 3, (some .int), some 6, false),
  (yX6_isBehind, cX6_isBehind, 3, (some .boolean), some 6, false),
  (yX7_init, cX7_init, 2, none, some 7, true),
  (yX7_clear, cX7_clear, 1, none, some 7, false),
  (yX7_add, cX7_add, 2, none, some 7, false),
  (yX7_addAll, cX7_addAll, 3, none, some 7, false),
  (yX7_addBracketed, cX7_addBracketed, 2, none, some 7, false),
  (yX7_become, cX7_become, 2, none, some 7, false),
  (yX7_setAt, cX7_setAt, 3, none, some 7, false),
  (yX7_at, cX7_at, 2, (some .int), some 7, false),
  (yX7_countOf, cX7_countOf, 4, (some .int), some 7, false),
  (yX8_init, cX8_init, 2, none, some 8, true),
  (yX8_clear, cX8_clear, 1, none, some 8, false),
  (yX8_kindOf, cX8_kindOf, 2, (some .int), some 8, false),
  (yX8_childrenOf, cX8_childrenOf, 2, (some .int), some 8, false),
  (yX8_childOf, cX8_childOf, 4, (some .int), some 8, false),
  (yX8_shortestOf, cX8_shortestOf, 2, (some .int), some 8, false),
  (yX8_nestOf, cX8_nestOf, 2, (some .int), some 8, false),
  (yX8_isFull, cX8_isFull, 2, (some .boolean), some 8, false),
  (yX8_mark, cX8_mark, 1, (some .int), some 8, false),
  (yX8_addSummand, cX8_addSummand, 4, none, some 8, false),
  (yX8_addFactor, cX8_addFactor, 3, none, some 8, false),
  (yX8_closeSum, cX8_closeSum, 2, (some .int), some 8, false),
  (yX8_closeProduct, cX8_closeProduct, 3, (some .int), some 8, false),
  (yX8_starOf, cX8_starOf, 4, (some .int), some 8, false),
  (yX8_spell, cX8_spell, 4, none, some 8, false),
  (yX8_spellNode, cX8_spellNode, 7, none, some 8, false),
  (yX8_spellChildren, cX8_spellChildren, 6, none, some 8, false),
  (yX8_push, cX8_push, 2, none, some 8, false),
  (yX8_addOnce, cX8_addOnce, 4, none, some 8, false),
  (yX8_close, cX8_close, 6, (some .int), some 8, false),
  (yX8_nodeOf, cX8_nodeOf, 4, (some .int), some 8, false),
  (yX8_hasChildren, cX8_hasChildren, 4, (some .boolean), some 8, false),
  (yX8_newNode, cX8_newNode, 9, (some .int), some 8, false),
  (yX9_init, cX9_init, 3, none, some 9, true),
  (yX9_howMany, cX9_howMany, 5, (some .int), some 9, false),
  (yX9_nth, cX9_nth, 13, (some .int), some 9, false),
  (yX9_begin, cX9_begin, 4, none, some 9, false),
  (yX9_startLeft, cX9_startLeft, 1, (some .int), some 9, false),
  (yX9_startRight, cX9_startRight, 1, (some .int), some 9, false),
  (yX9_countBehind, cX9_countBehind, 5, (some .int), some 9, false),
  (yX9_countFrom, cX9_countFrom, 7, (some .int), some 9, false),
  (yX9_fits, cX9_fits, 3, (some .boolean), some 9, false),
  (yX9_allWords, cX9_allWords, 3, (some .int), none, false),
  (yX9_cellOf, cX9_cellOf, 4, (some .int), none, false),
  (yX10_init, cX10_init, 3, none, some 10, true),
  (yX10_write, cX10_write, 6, (some .int), some 10, false),
  (yX10_side, cX10_side, 5, (some .int), some 10, false),
  (yX10_fault, cX10_fault, 1, (some .int), some 10, false),
  (yX10_swap, cX10_swap, 2, none, some 10, false),
  (yX10_keep, cX10_keep, 3, (some .boolean), some 10, false),
  (yX10_make, cX10_make, 7, (some .int), some 10, false),
  (yX10_shape, cX10_shape, 4, (some .int), some 10, false),
  (yX10_term, cX10_term, 5, (some .int), some 10, false),
  (yX10_like, cX10_like, 3, (some .int), some 10, false),
  (yX10_has, cX10_has, 3, (some .boolean), some 10, false),
  (yX10_words, cX10_words, 3, (some .int), some 10, false),
  (yX10_word, cX10_word, 4, (some .int), some 10, false),
  (yX10_prove, cX10_prove, 1, (some .int), some 10, false),
  (yX10_apart, cX10_apart, 3, (some .int), some 10, false),
  (yX10_count, cX10_count, 3, (some .int), some 10, false),
  (yX10_line, cX10_line, 4, (some .int), some 10, false),
  (yX10_alter, cX10_alter, 5, (some .int), some 10, false),
  (yX10_cut, cX10_cut, 1, (some .int), some 10, false),
  (yX10_check, cX10_check, 1, (some .int), some 10, false),
  (yX10_why, cX10_why, 2, (some .int), some 10, false),
  (yX10_same, cX10_same, 3, (some .int), some 10, false),
  (yX10_between, cX10_between, 3, (some .int), some 10, false),
  (yX10_image, cX10_image, 2, (some .boolean), some 10, false),
  (yX10_again, cX10_again, 2, (some .boolean), some 10, false),
  (yX10_isSide, cX10_isSide, 1, (some .boolean), none, false),
  (yX10_isSlot, cX10_isSlot, 1, (some .boolean), none, false),
  (yX10_canCount, cX10_canCount, 2, (some .boolean), none, false),
  (yX10_byteOf, cX10_byteOf, 3, (some .int), none, false),
  (yX10_bytesOf, cX10_bytesOf, 3, (some .int), none, false),
  (yX10_replace, cX10_replace, 4, (some .int), none, false),
  (yX10_faultOf, cX10_faultOf, 3, (some .int), some 10, false),
  (yX10_put, cX10_put, 3, (some .int), some 10, false),
  (yX10_readSlot, cX10_readSlot, 4, (some .int), some 10, false),
  (yX10_draftOf, cX10_draftOf, 4, none, some 10, false),
  (yX10_tapeIsWordOf, cX10_tapeIsWordOf, 6, (some .boolean), some 10, false),
  (yX11_init, cX11_init, 2, none, some 11, true),
  (yX11_zeroes, cX11_zeroes, 2, none, some 11, false),
  (yX11_isIn, cX11_isIn, 3, (some .boolean), none, false),
  (yX11_copies, cX11_copies, 5, none, some 11, false),
  (yX11_clears, cX11_clears, 2, none, some 11, false),
  (yX11_addsNode, cX11_addsNode, 5, (some .int), some 11, false),
  (yX11_joins, cX11_joins, 4, none, some 11, false),
  (yX11_kept, cX11_kept, 6, (some .int), some 11, false),
  (yX11_notes, cX11_notes, 4, none, some 11, false),
  (yX11_sum, cX11_sum, 7, (some .int), some 11, false),
  (yX11_product, cX11_product, 7, (some .int), some 11, false),
  (yX11_star, cX11_star, 2, (some .int), some 11, false),
  (yX11_behind, cX11_behind, 6, (some .int), some 11, false),
  (yX11_opens, cX11_opens, 1, none, some 11, false),
  (yX11_addsFactor, cX11_addsFactor, 2, none, some 11, false),
  (yX11_endsProduct, cX11_endsProduct, 1, none, some 11, false),
  (yX11_endsSum, cX11_endsSum, 1, (some .int), some 11, false),
  (yX11_told, cX11_told, 9, (some .int), some 11, false),
  (yX11_pushes, cX11_pushes, 3, none, some 11, false),
  (yX11_pushesByte, cX11_pushesByte, 2, none, some 11, false),
  (yX11_spells, cX11_spells, 3, none, some 11, false),
  (yX11_spellsOne, cX11_spellsOne, 6, none, some 11, false),
  (yX11_lacks, cX11_lacks, 5, (some .int), some 11, false),
  (yX11_lays, cX11_lays, 3, none, some 11, false),
  (yX11_partOf, cX11_partOf, 4, (some .int), some 11, false),
  (yX11_laysParts, cX11_laysParts, 6, none, some 11, false),
  (yX11_withStar, cX11_withStar, 3, (some .int), some 11, false),
  (yX11_needs, cX11_needs, 5, none, some 11, false),
  (yX11_termBy, cX11_termBy, 4, (some .int), some 11, false),
  (yX11_laysTerms, cX11_laysTerms, 5, none, some 11, false),
  (yX11_laysRow, cX11_laysRow, 9, none, some 11, false),
  (yX11_laysBoth, cX11_laysBoth, 5, none, some 11, false),
  (yX11_isFull, cX11_isFull, 3, (some .boolean), some 11, false),
  (yX11_isFullSet, cX11_isFullSet, 4, (some .boolean), some 11, false),
  (yX11_partsOf, cX11_partsOf, 6, (some .int), some 11, false),
  (yX11_isMember, cX11_isMember, 4, (some .boolean), some 11, false),
  (yX11_lineWith, cX11_lineWith, 5, (some .int), some 11, false),
  (yX11_newLine, cX11_newLine, 7, none, some 11, false),
  (yX11_steps, cX11_steps, 11, (some .boolean), some 11, false),
  (yX11_tellsWord, cX11_tellsWord, 6, none, some 11, false),
  (yX11_searches, cX11_searches, 5, (some .int), some 11, false),
  (yX11_forgets, cX11_forgets, 2, none, some 11, false),
  (yX11_prove, cX11_prove, 1, (some .int), some 11, false),
  (yX11_tried, cX11_tried, 3, (some .int), some 11, false),
  (yX11_same, cX11_same, 3, (some .int), some 11, false),
  (yX11_isSlot, cX11_isSlot, 1, (some .boolean), none, false),
  (yX11_between, cX11_between, 3, (some .int), some 11, false),
  (yX11_apart, cX11_apart, 2, (some .int), some 11, false),
  (yX11_line, cX11_line, 3, (some .int), some 11, false),
  (yX11_placeOf, cX11_placeOf, 2, (some .int), none, false),
  (yX11_alter, cX11_alter, 6, (some .int), some 11, false),
  (yX11_cut, cX11_cut, 1, (some .int), some 11, false),
  (yX11_isTold, cX11_isTold, 4, (some .boolean), some 11, false),
  (yX11_count, cX11_count, 4, (some .int), some 11, false),
  (yX11_hasPremise, cX11_hasPremise, 6, (some .boolean), some 11, false),
  (yX11_reason, cX11_reason, 9, (some .int), some 11, false),
  (yX11_bad, cX11_bad, 2, (some .int), some 11, false),
  (yX11_check, cX11_check, 1, (some .int), some 11, false),
  (yX11_why, cX11_why, 3, (some .int), some 11, false),
  (yX11_write, cX11_write, 5, (some .int), some 11, false),
  (yX11_isSide, cX11_isSide, 1, (some .boolean), none, false),
  (yX11_becomes, cX11_becomes, 4, (some .int), some 11, false),
  (yX11_side, cX11_side, 4, (some .int), some 11, false),
  (yX11_fault, cX11_fault, 1, (some .int), some 11, false),
  (yX11_swap, cX11_swap, 1, none, some 11, false),
  (yX11_keep, cX11_keep, 3, (some .boolean), some 11, false),
  (yX11_make, cX11_make, 8, (some .int), some 11, false),
  (yX11_spelled, cX11_spelled, 4, (some .int), some 11, false),
  (yX11_byteAt, cX11_byteAt, 2, (some .int), some 11, false),
  (yX11_shape, cX11_shape, 4, (some .int), some 11, false),
  (yX11_term, cX11_term, 4, (some .int), some 11, false),
  (yX11_like, cX11_like, 3, (some .int), some 11, false),
  (yX11_has, cX11_has, 5, (some .boolean), some 11, false),
  (yX11_isWord, cX11_isWord, 5, (some .boolean), some 11, false),
  (yX11_isOne, cX11_isOne, 5, (some .boolean), some 11, false),
  (yX11_goesOn, cX11_goesOn, 3, (some .boolean), some 11, false),
  (yX11_number, cX11_number, 4, (some .int), some 11, false),
  (yX11_listed, cX11_listed, 6, (some .int), some 11, false),
  (yX11_words, cX11_words, 3, (some .int), some 11, false),
  (yX11_word, cX11_word, 4, (some .int), some 11, false),
  (yX11_image, cX11_image, 4, (some .boolean), some 11, false),
  (yX11_again, cX11_again, 4, (some .boolean), some 11, false),
  (yJ7_fill_53178, cJ7_fill_53178, 4, none, none, false)]
def ll_info (y : Nat) : MethodName × ByteArray × Nat × Option FieldType × Option Nat × Bool := ll_names.getD y (yL_law, cL_law, 4, some .boolean, none, false)
def ll_mN (y : Nat) : MethodName := (ll_info y).1
def ll_mC (y : Nat) : ByteArray := (ll_info y).2.1
def ll_mL (y : Nat) : Nat := (ll_info y).2.2.1
def ll_mR (y : Nat) : Option FieldType := (ll_info y).2.2.2.1
def ll_mK (y : Nat) : Option Nat := (ll_info y).2.2.2.2.1
def ll_mI (y : Nat) : Bool := (ll_info y).2.2.2.2.2
def ll_cnt : Nat := 232
theorem mN_0 : ll_mN 0 = yX0_init := rfl
theorem mC_0 : ll_mC 0 = cX0_init := rfl
theorem mL_0 : ll_mL 0 = 4 := rfl
theorem mR_0 : ll_mR 0 = none := rfl
theorem mK_0 : ll_mK 0 = some 0 := rfl
theorem mI_0 : ll_mI 0 = true := rfl
theorem mN_1 : ll_mN 1 = yX0_look := rfl
theorem mC_1 : ll_mC 1 = cX0_look := rfl
theorem mL_1 : ll_mL 1 = 5 := rfl
theorem mR_1 : ll_mR 1 = none := rfl
theorem mK_1 : ll_mK 1 = some 0 := rfl
theorem mI_1 : ll_mI 1 = false := rfl
theorem mN_2 : ll_mN 2 = yX0_startsWell := rfl
theorem mC_2 : ll_mC 2 = cX0_startsWell := rfl
theorem mL_2 : ll_mL 2 = 1 := rfl
theorem mR_2 : ll_mR 2 = (some .boolean) := rfl
theorem mK_2 : ll_mK 2 = some 0 := rfl
theorem mI_2 : ll_mI 2 = false := rfl
theorem mN_3 : ll_mN 3 = yX0_reasonOf := rfl
theorem mC_3 : ll_mC 3 = cX0_reasonOf := rfl
theorem mL_3 : ll_mL 3 = 5 := rfl
theorem mR_3 : ll_mR 3 = (some .int) := rfl
theorem mK_3 : ll_mK 3 = some 0 := rfl
theorem mI_3 : ll_mI 3 = false := rfl
theorem mN_4 : ll_mN 4 = yX0_isMember := rfl
theorem mC_4 : ll_mC 4 = cX0_isMember := rfl
theorem mL_4 : ll_mL 4 = 4 := rfl
theorem mR_4 : ll_mR 4 = (some .boolean) := rfl
theorem mK_4 : ll_mK 4 = some 0 := rfl
theorem mI_4 : ll_mI 4 = false := rfl
theorem mN_5 : ll_mN 5 = yX0_premisesAreLines := rfl
theorem mC_5 : ll_mC 5 = cX0_premisesAreLines := rfl
theorem mL_5 : ll_mL 5 = 3 := rfl
theorem mR_5 : ll_mR 5 = (some .boolean) := rfl
theorem mK_5 : ll_mK 5 = some 0 := rfl
theorem mI_5 : ll_mI 5 = false := rfl
theorem mN_6 : ll_mN 6 = yX0_partsAreProved := rfl
theorem mC_6 : ll_mC 6 = cX0_partsAreProved := rfl
theorem mL_6 : ll_mL 6 = 8 := rfl
theorem mR_6 : ll_mR 6 = (some .boolean) := rfl
theorem mK_6 : ll_mK 6 = some 0 := rfl
theorem mI_6 : ll_mI 6 = false := rfl
theorem mN_7 : ll_mN 7 = yX0_hasPremiseFor := rfl
theorem mC_7 : ll_mC 7 = cX0_hasPremiseFor := rfl
theorem mL_7 : ll_mL 7 = 6 := rfl
theorem mR_7 : ll_mR 7 = (some .boolean) := rfl
theorem mK_7 : ll_mK 7 = some 0 := rfl
theorem mI_7 : ll_mI 7 = false := rfl
theorem mN_8 : ll_mN 8 = yX1_init := rfl
theorem mC_8 : ll_mC 8 = cX1_init := rfl
theorem mL_8 : ll_mL 8 = 1 := rfl
theorem mR_8 : ll_mR 8 = none := rfl
theorem mK_8 : ll_mK 8 = some 1 := rfl
theorem mI_8 : ll_mI 8 = true := rfl
theorem mN_9 : ll_mN 9 = yX1_clear := rfl
theorem mC_9 : ll_mC 9 = cX1_clear := rfl
theorem mL_9 : ll_mL 9 = 1 := rfl
theorem mR_9 : ll_mR 9 = none := rfl
theorem mK_9 : ll_mK 9 = some 1 := rfl
theorem mI_9 : ll_mI 9 = false := rfl
theorem mN_10 : ll_mN 10 = yX1_isLine := rfl
theorem mC_10 : ll_mC 10 = cX1_isLine := rfl
theorem mL_10 : ll_mL 10 = 2 := rfl
theorem mR_10 : ll_mR 10 = (some .boolean) := rfl
theorem mK_10 : ll_mK 10 = some 1 := rfl
theorem mI_10 : ll_mI 10 = false := rfl
theorem mN_11 : ll_mN 11 = yX1_isPremise := rfl
theorem mC_11 : ll_mC 11 = cX1_isPremise := rfl
theorem mL_11 : ll_mL 11 = 3 := rfl
theorem mR_11 : ll_mR 11 = (some .boolean) := rfl
theorem mK_11 : ll_mK 11 = some 1 := rfl
theorem mI_11 : ll_mI 11 = false := rfl
theorem mN_12 : ll_mN 12 = yX1_premiseOf := rfl
theorem mC_12 : ll_mC 12 = cX1_premiseOf := rfl
theorem mL_12 : ll_mL 12 = 3 := rfl
theorem mR_12 : ll_mR 12 = (some .int) := rfl
theorem mK_12 : ll_mK 12 = some 1 := rfl
theorem mI_12 : ll_mI 12 = false := rfl
theorem mN_13 : ll_mN 13 = yX1_addLine := rfl
theorem mC_13 : ll_mC 13 = cX1_addLine := rfl
theorem mL_13 : ll_mL 13 = 4 := rfl
theorem mR_13 : ll_mR 13 = (some .int) := rfl
theorem mK_13 : ll_mK 13 = some 1 := rfl
theorem mI_13 : ll_mI 13 = false := rfl
theorem mN_14 : ll_mN 14 = yX1_openPremises := rfl
theorem mC_14 : ll_mC 14 = cX1_openPremises := rfl
theorem mL_14 : ll_mL 14 = 2 := rfl
theorem mR_14 : ll_mR 14 = none := rfl
theorem mK_14 : ll_mK 14 = some 1 := rfl
theorem mI_14 : ll_mI 14 = false := rfl
theorem mN_15 : ll_mN 15 = yX1_addPremise := rfl
theorem mC_15 : ll_mC 15 = cX1_addPremise := rfl
theorem mL_15 : ll_mL 15 = 3 := rfl
theorem mR_15 : ll_mR 15 = none := rfl
theorem mK_15 : ll_mK 15 = some 1 := rfl
theorem mI_15 : ll_mI 15 = false := rfl
theorem mN_16 : ll_mN 16 = yX1_dropPremises := rfl
theorem mC_16 : ll_mC 16 = cX1_dropPremises := rfl
theorem mL_16 : ll_mL 16 = 2 := rfl
theorem mR_16 : ll_mR 16 = none := rfl
theorem mK_16 : ll_mK 16 = some 1 := rfl
theorem mI_16 : ll_mI 16 = false := rfl
theorem mN_17 : ll_mN 17 = yX1_dropLast := rfl
theorem mC_17 : ll_mC 17 = cX1_dropLast := rfl
theorem mL_17 : ll_mL 17 = 1 := rfl
theorem mR_17 : ll_mR 17 = (some .int) := rfl
theorem mK_17 : ll_mK 17 = some 1 := rfl
theorem mI_17 : ll_mI 17 = false := rfl
theorem mN_18 : ll_mN 18 = yX1_ofRule := rfl
theorem mC_18 : ll_mC 18 = cX1_ofRule := rfl
theorem mL_18 : ll_mL 18 = 4 := rfl
theorem mR_18 : ll_mR 18 = (some .int) := rfl
theorem mK_18 : ll_mK 18 = some 1 := rfl
theorem mI_18 : ll_mI 18 = false := rfl
theorem mN_19 : ll_mN 19 = yX1_premisesOfNone := rfl
theorem mC_19 : ll_mC 19 = cX1_premisesOfNone := rfl
theorem mL_19 : ll_mL 19 = 3 := rfl
theorem mR_19 : ll_mR 19 = (some .int) := rfl
theorem mK_19 : ll_mK 19 = some 1 := rfl
theorem mI_19 : ll_mI 19 = false := rfl
theorem mN_20 : ll_mN 20 = yX1_become := rfl
theorem mC_20 : ll_mC 20 = cX1_become := rfl
theorem mL_20 : ll_mL 20 = 2 := rfl
theorem mR_20 : ll_mR 20 = none := rfl
theorem mK_20 : ll_mK 20 = some 1 := rfl
theorem mI_20 : ll_mI 20 = false := rfl
theorem mN_21 : ll_mN 21 = yX2_init := rfl
theorem mC_21 : ll_mC 21 = cX2_init := rfl
theorem mL_21 : ll_mL 21 = 3 := rfl
theorem mR_21 : ll_mR 21 = none := rfl
theorem mK_21 : ll_mK 21 = some 2 := rfl
theorem mI_21 : ll_mI 21 = true := rfl
theorem mN_22 : ll_mN 22 = yX2_read := rfl
theorem mC_22 : ll_mC 22 = cX2_read := rfl
theorem mL_22 : ll_mL 22 = 4 := rfl
theorem mR_22 : ll_mR 22 = (some .int) := rfl
theorem mK_22 : ll_mK 22 = some 2 := rfl
theorem mI_22 : ll_mI 22 = false := rfl
theorem mN_23 : ll_mN 23 = yX2_readSum := rfl
theorem mC_23 : ll_mC 23 = cX2_readSum := rfl
theorem mL_23 : ll_mL 23 = 5 := rfl
theorem mR_23 : ll_mR 23 = (some .int) := rfl
theorem mK_23 : ll_mK 23 = some 2 := rfl
theorem mI_23 : ll_mI 23 = false := rfl
theorem mN_24 : ll_mN 24 = yX2_readProduct := rfl
theorem mC_24 : ll_mC 24 = cX2_readProduct := rfl
theorem mL_24 : ll_mL 24 = 5 := rfl
theorem mR_24 : ll_mR 24 = (some .int) := rfl
theorem mK_24 : ll_mK 24 = some 2 := rfl
theorem mI_24 : ll_mI 24 = false := rfl
theorem mN_25 : ll_mN 25 = yX2_readFactor := rfl
theorem mC_25 : ll_mC 25 = cX2_readFactor := rfl
theorem mL_25 : ll_mL 25 = 4 := rfl
theorem mR_25 : ll_mR 25 = (some .int) := rfl
theorem mK_25 : ll_mK 25 = some 2 := rfl
theorem mI_25 : ll_mI 25 = false := rfl
theorem mN_26 : ll_mN 26 = yX2_readAtom := rfl
theorem mC_26 : ll_mC 26 = cX2_readAtom := rfl
theorem mL_26 : ll_mL 26 = 4 := rfl
theorem mR_26 : ll_mR 26 = (some .int) := rfl
theorem mK_26 : ll_mK 26 = some 2 := rfl
theorem mI_26 : ll_mI 26 = false := rfl
theorem mN_27 : ll_mN 27 = yX2_next := rfl
theorem mC_27 : ll_mC 27 = cX2_next := rfl
theorem mL_27 : ll_mL 27 = 1 := rfl
theorem mR_27 : ll_mR 27 = (some .int) := rfl
theorem mK_27 : ll_mK 27 = some 2 := rfl
theorem mI_27 : ll_mI 27 = false := rfl
theorem mN_28 : ll_mN 28 = yX2_beginsAtom := rfl
theorem mC_28 : ll_mC 28 = cX2_beginsAtom := rfl
theorem mL_28 : ll_mL 28 = 1 := rfl
theorem mR_28 : ll_mR 28 = (some .boolean) := rfl
theorem mK_28 : ll_mK 28 = none := rfl
theorem mI_28 : ll_mI 28 = false := rfl
theorem mN_29 : ll_mN 29 = yX3_init := rfl
theorem mC_29 : ll_mC 29 = cX3_init := rfl
theorem mL_29 : ll_mL 29 = 2 := rfl
theorem mR_29 : ll_mR 29 = none := rfl
theorem mK_29 : ll_mK 29 = some 3 := rfl
theorem mI_29 : ll_mI 29 = true := rfl
theorem mN_30 : ll_mN 30 = yX3_become := rfl
theorem mC_30 : ll_mC 30 = cX3_become := rfl
theorem mL_30 : ll_mL 30 = 3 := rfl
theorem mR_30 : ll_mR 30 = none := rfl
theorem mK_30 : ll_mK 30 = some 3 := rfl
theorem mI_30 : ll_mI 30 = false := rfl
theorem mN_31 : ll_mN 31 = yX4_init := rfl
theorem mC_31 : ll_mC 31 = cX4_init := rfl
theorem mL_31 : ll_mL 31 = 4 := rfl
theorem mR_31 : ll_mR 31 = none := rfl
theorem mK_31 : ll_mK 31 = some 4 := rfl
theorem mI_31 : ll_mI 31 = true := rfl
theorem mN_32 : ll_mN 32 = yX4_run := rfl
theorem mC_32 : ll_mC 32 = cX4_run := rfl
theorem mL_32 : ll_mL 32 = 6 := rfl
theorem mR_32 : ll_mR 32 = (some .int) := rfl
theorem mK_32 : ll_mK 32 = some 4 := rfl
theorem mI_32 : ll_mI 32 = false := rfl
theorem mN_33 : ll_mN 33 = yX4_takeTurn := rfl
theorem mC_33 : ll_mC 33 = cX4_takeTurn := rfl
theorem mL_33 : ll_mL 33 = 4 := rfl
theorem mR_33 : ll_mR 33 = (some .int) := rfl
theorem mK_33 : ll_mK 33 = some 4 := rfl
theorem mI_33 : ll_mI 33 = false := rfl
theorem mN_34 : ll_mN 34 = yX4_step := rfl
theorem mC_34 : ll_mC 34 = cX4_step := rfl
theorem mL_34 : ll_mL 34 = 9 := rfl
theorem mR_34 : ll_mR 34 = (some .boolean) := rfl
theorem mK_34 : ll_mK 34 = some 4 := rfl
theorem mI_34 : ll_mI 34 = false := rfl
theorem mN_35 : ll_mN 35 = yX4_lineFor := rfl
theorem mC_35 : ll_mC 35 = cX4_lineFor := rfl
theorem mL_35 : ll_mL 35 = 7 := rfl
theorem mR_35 : ll_mR 35 = (some .int) := rfl
theorem mK_35 : ll_mK 35 = some 4 := rfl
theorem mI_35 : ll_mI 35 = false := rfl
theorem mN_36 : ll_mN 36 = yX4_comeTo := rfl
theorem mC_36 : ll_mC 36 = cX4_comeTo := rfl
theorem mL_36 : ll_mL 36 = 6 := rfl
theorem mR_36 : ll_mR 36 = (some .int) := rfl
theorem mK_36 : ll_mK 36 = some 4 := rfl
theorem mI_36 : ll_mI 36 = false := rfl
theorem mN_37 : ll_mN 37 = yX4_tellApart := rfl
theorem mC_37 : ll_mC 37 = cX4_tellApart := rfl
theorem mL_37 : ll_mL 37 = 5 := rfl
theorem mR_37 : ll_mR 37 = none := rfl
theorem mK_37 : ll_mK 37 = some 4 := rfl
theorem mI_37 : ll_mI 37 = false := rfl
theorem mN_38 : ll_mN 38 = yX5_init := rfl
theorem mC_38 : ll_mC 38 = cX5_init := rfl
theorem mL_38 : ll_mL 38 = 1 := rfl
theorem mR_38 : ll_mR 38 = none := rfl
theorem mK_38 : ll_mK 38 = some 5 := rfl
theorem mI_38 : ll_mI 38 = true := rfl
theorem mN_39 : ll_mN 39 = yX5_clear := rfl
theorem mC_39 : ll_mC 39 = cX5_clear := rfl
theorem mL_39 : ll_mL 39 = 1 := rfl
theorem mR_39 : ll_mR 39 = none := rfl
theorem mK_39 : ll_mK 39 = some 5 := rfl
theorem mI_39 : ll_mI 39 = false := rfl
theorem mN_40 : ll_mN 40 = yX5_openTerm := rfl
theorem mC_40 : ll_mC 40 = cX5_openTerm := rfl
theorem mL_40 : ll_mL 40 = 2 := rfl
theorem mR_40 : ll_mR 40 = none := rfl
theorem mK_40 : ll_mK 40 = some 5 := rfl
theorem mI_40 : ll_mI 40 = false := rfl
theorem mN_41 : ll_mN 41 = yX5_openParts := rfl
theorem mC_41 : ll_mC 41 = cX5_openParts := rfl
theorem mL_41 : ll_mL 41 = 2 := rfl
theorem mR_41 : ll_mR 41 = none := rfl
theorem mK_41 : ll_mK 41 = some 5 := rfl
theorem mI_41 : ll_mI 41 = false := rfl
theorem mN_42 : ll_mN 42 = yX5_addPart := rfl
theorem mC_42 : ll_mC 42 = cX5_addPart := rfl
theorem mL_42 : ll_mL 42 = 3 := rfl
theorem mR_42 : ll_mR 42 = none := rfl
theorem mK_42 : ll_mK 42 = some 5 := rfl
theorem mI_42 : ll_mI 42 = false := rfl
theorem mN_43 : ll_mN 43 = yX5_closeTerm := rfl
theorem mC_43 : ll_mC 43 = cX5_closeTerm := rfl
theorem mL_43 : ll_mL 43 = 1 := rfl
theorem mR_43 : ll_mR 43 = none := rfl
theorem mK_43 : ll_mK 43 = some 5 := rfl
theorem mI_43 : ll_mI 43 = false := rfl
theorem mN_44 : ll_mN 44 = yX5_become := rfl
theorem mC_44 : ll_mC 44 = cX5_become := rfl
theorem mL_44 : ll_mL 44 = 3 := rfl
theorem mR_44 : ll_mR 44 = none := rfl
theorem mK_44 : ll_mK 44 = some 5 := rfl
theorem mI_44 : ll_mI 44 = false := rfl
theorem mN_45 : ll_mN 45 = yX5_isTerm := rfl
theorem mC_45 : ll_mC 45 = cX5_isTerm := rfl
theorem mL_45 : ll_mL 45 = 2 := rfl
theorem mR_45 : ll_mR 45 = (some .boolean) := rfl
theorem mK_45 : ll_mK 45 = some 5 := rfl
theorem mI_45 : ll_mI 45 = false := rfl
theorem mN_46 : ll_mN 46 = yX5_isSet := rfl
theorem mC_46 : ll_mC 46 = cX5_isSet := rfl
theorem mL_46 : ll_mL 46 = 2 := rfl
theorem mR_46 : ll_mR 46 = (some .boolean) := rfl
theorem mK_46 : ll_mK 46 = some 5 := rfl
theorem mI_46 : ll_mI 46 = false := rfl
theorem mN_47 : ll_mN 47 = yX5_anyFull := rfl
theorem mC_47 : ll_mC 47 = cX5_anyFull := rfl
theorem mL_47 : ll_mL 47 = 2 := rfl
theorem mR_47 : ll_mR 47 = (some .boolean) := rfl
theorem mK_47 : ll_mK 47 = some 5 := rfl
theorem mI_47 : ll_mI 47 = false := rfl
theorem mN_48 : ll_mN 48 = yX5_lettersSpelt := rfl
theorem mC_48 : ll_mC 48 = cX5_lettersSpelt := rfl
theorem mL_48 : ll_mL 48 = 3 := rfl
theorem mR_48 : ll_mR 48 = (some .int) := rfl
theorem mK_48 : ll_mK 48 = some 5 := rfl
theorem mI_48 : ll_mI 48 = false := rfl
theorem mN_49 : ll_mN 49 = yX5_termBytes := rfl
theorem mC_49 : ll_mC 49 = cX5_termBytes := rfl
theorem mL_49 : ll_mL 49 = 2 := rfl
theorem mR_49 : ll_mR 49 = (some .int) := rfl
theorem mK_49 : ll_mK 49 = some 5 := rfl
theorem mI_49 : ll_mI 49 = false := rfl
theorem mN_50 : ll_mN 50 = yX5_termByte := rfl
theorem mC_50 : ll_mC 50 = cX5_termByte := rfl
theorem mL_50 : ll_mL 50 = 3 := rfl
theorem mR_50 : ll_mR 50 = (some .int) := rfl
theorem mK_50 : ll_mK 50 = some 5 := rfl
theorem mI_50 : ll_mI 50 = false := rfl
theorem mN_51 : ll_mN 51 = yX5_partSet := rfl
theorem mC_51 : ll_mC 51 = cX5_partSet := rfl
theorem mL_51 : ll_mL 51 = 3 := rfl
theorem mR_51 : ll_mR 51 = (some .int) := rfl
theorem mK_51 : ll_mK 51 = some 5 := rfl
theorem mI_51 : ll_mI 51 = false := rfl
theorem mN_52 : ll_mN 52 = yX5_partsOf := rfl
theorem mC_52 : ll_mC 52 = cX5_partsOf := rfl
theorem mL_52 : ll_mL 52 = 4 := rfl
theorem mR_52 : ll_mR 52 = (some .int) := rfl
theorem mK_52 : ll_mK 52 = some 5 := rfl
theorem mI_52 : ll_mI 52 = false := rfl
theorem mN_53 : ll_mN 53 = yX5_partOf := rfl
theorem mC_53 : ll_mC 53 = cX5_partOf := rfl
theorem mL_53 : ll_mL 53 = 4 := rfl
theorem mR_53 : ll_mR 53 = (some .int) := rfl
theorem mK_53 : ll_mK 53 = some 5 := rfl
theorem mI_53 : ll_mI 53 = false := rfl
theorem mN_54 : ll_mN 54 = yX5_partsOfSet := rfl
theorem mC_54 : ll_mC 54 = cX5_partsOfSet := rfl
theorem mL_54 : ll_mL 54 = 5 := rfl
theorem mR_54 : ll_mR 54 = (some .int) := rfl
theorem mK_54 : ll_mK 54 = some 5 := rfl
theorem mI_54 : ll_mI 54 = false := rfl
theorem mN_55 : ll_mN 55 = yX5_alikeTerm := rfl
theorem mC_55 : ll_mC 55 = cX5_alikeTerm := rfl
theorem mL_55 : ll_mL 55 = 4 := rfl
theorem mR_55 : ll_mR 55 = (some .int) := rfl
theorem mK_55 : ll_mK 55 = some 5 := rfl
theorem mI_55 : ll_mI 55 = false := rfl
theorem mN_56 : ll_mN 56 = yX5_isLetter := rfl
theorem mC_56 : ll_mC 56 = cX5_isLetter := rfl
theorem mL_56 : ll_mL 56 = 1 := rfl
theorem mR_56 : ll_mR 56 = (some .boolean) := rfl
theorem mK_56 : ll_mK 56 = none := rfl
theorem mI_56 : ll_mI 56 = false := rfl
theorem mN_57 : ll_mN 57 = yX5_signsStart := rfl
theorem mC_57 : ll_mC 57 = cX5_signsStart := rfl
theorem mL_57 : ll_mL 57 = 2 := rfl
theorem mR_57 : ll_mR 57 = (some .int) := rfl
theorem mK_57 : ll_mK 57 = some 5 := rfl
theorem mI_57 : ll_mI 57 = false := rfl
theorem mN_58 : ll_mN 58 = yX5_isAlike := rfl
theorem mC_58 : ll_mC 58 = cX5_isAlike := rfl
theorem mL_58 : ll_mL 58 = 8 := rfl
theorem mR_58 : ll_mR 58 = (some .boolean) := rfl
theorem mK_58 : ll_mK 58 = some 5 := rfl
theorem mI_58 : ll_mI 58 = false := rfl
theorem mN_59 : ll_mN 59 = yX6_init := rfl
theorem mC_59 : ll_mC 59 = cX6_init := rfl
theorem mL_59 : ll_mL 59 = 2 := rfl
theorem mR_59 : ll_mR 59 = none := rfl
theorem mK_59 : ll_mK 59 = some 6 := rfl
theorem mI_59 : ll_mI 59 = true := rfl
theorem mN_60 : ll_mN 60 = yX6_speltBytes := rfl
theorem mC_60 : ll_mC 60 = cX6_speltBytes := rfl
theorem mL_60 : ll_mL 60 = 2 := rfl
theorem mR_60 : ll_mR 60 = (some .int) := rfl
theorem mK_60 : ll_mK 60 = some 6 := rfl
theorem mI_60 : ll_mI 60 = false := rfl
theorem mN_61 : ll_mN 61 = yX6_findTerms := rfl
theorem mC_61 : ll_mC 61 = cX6_findTerms := rfl
theorem mL_61 : ll_mL 61 = 5 := rfl
theorem mR_61 : ll_mR 61 = none := rfl
theorem mK_61 : ll_mK 61 = some 6 := rfl
theorem mI_61 : ll_mI 61 = false := rfl
theorem mN_62 : ll_mN 62 = yX6_tellTerm := rfl
theorem mC_62 : ll_mC 62 = cX6_tellTerm := rfl
theorem mL_62 : ll_mL 62 = 7 := rfl
theorem mR_62 : ll_mR 62 = none := rfl
theorem mK_62 : ll_mK 62 = some 6 := rfl
theorem mI_62 : ll_mI 62 = false := rfl
theorem mN_63 : ll_mN 63 = yX6_findParts := rfl
theorem mC_63 : ll_mC 63 = cX6_findParts := rfl
theorem mL_63 : ll_mL 63 = 5 := rfl
theorem mR_63 : ll_mR 63 = none := rfl
theorem mK_63 : ll_mK 63 = some 6 := rfl
theorem mI_63 : ll_mI 63 = false := rfl
theorem mN_64 : ll_mN 64 = yX6_gatherFactors := rfl
theorem mC_64 : ll_mC 64 = cX6_gatherFactors := rfl
theorem mL_64 : ll_mL 64 = 7 := rfl
theorem mR_64 : ll_mR 64 = none := rfl
theorem mK_64 : ll_mK 64 = some 6 := rfl
theorem mI_64 : ll_mI 64 = false := rfl
theorem mN_65 : ll_mN 65 = yX6_gatherNode := rfl
theorem mC_65 : ll_mC 65 = cX6_gatherNode := rfl
theorem mL_65 : ll_mL 65 = 6 := rfl
theorem mR_65 : ll_mR 65 = none := rfl
theorem mK_65 : ll_mK 65 = some 6 := rfl
theorem mI_65 : ll_mI 65 = false := rfl
theorem mN_66 : ll_mN 66 = yX6_pushFactors := rfl
theorem mC_66 : ll_mC 66 = cX6_pushFactors := rfl
theorem mL_66 : ll_mL 66 = 3 := rfl
theorem mR_66 : ll_mR 66 = none := rfl
theorem mK_66 : ll_mK 66 = some 6 := rfl
theorem mI_66 : ll_mI 66 = false := rfl
theorem mN_67 : ll_mN 67 = yX6_push := rfl
theorem mC_67 : ll_mC 67 = cX6_push := rfl
theorem mL_67 : ll_mL 67 = 2 := rfl
theorem mR_67 : ll_mR 67 = none := rfl
theorem mK_67 : ll_mK 67 = some 6 := rfl
theorem mI_67 : ll_mI 67 = false := rfl
theorem mN_68 : ll_mN 68 = yX6_numberOfTerm := rfl
theorem mC_68 : ll_mC 68 = cX6_numberOfTerm := rfl
theorem mL_68 : ll_mL 68 = 3 := rfl
theorem mR_68 : ll_mR 68 = (some .int) := rfl
theorem mK_68 : ll_mK 68 = some 6 := rfl
theorem mI_68 : ll_mI 68 = false := rfl
theorem mN_69 : ll_mN 69 = yX6_isBehind := rfl
theorem mC_69 : ll_mC 69 = cX6_isBehind := rfl
theorem mL_69 : ll_mL 69 = 3 := rfl
theorem mR_69 : ll_mR 69 = (some .boolean) := rfl
theorem mK_69 : ll_mK 69 = some 6 := rfl
theorem mI_69 : ll_mI 69 = false := rfl
theorem mN_70 : ll_mN 70 = yX7_init := rfl
theorem mC_70 : ll_mC 70 = cX7_init := rfl
theorem mL_70 : ll_mL 70 = 2 := rfl
theorem mR_70 : ll_mR 70 = none := rfl
theorem mK_70 : ll_mK 70 = some 7 := rfl
theorem mI_70 : ll_mI 70 = true := rfl
theorem mN_71 : ll_mN 71 = yX7_clear := rfl
theorem mC_71 : ll_mC 71 = cX7_clear := rfl
theorem mL_71 : ll_mL 71 = 1 := rfl
theorem mR_71 : ll_mR 71 = none := rfl
theorem mK_71 : ll_mK 71 = some 7 := rfl
theorem mI_71 : ll_mI 71 = false := rfl
theorem mN_72 : ll_mN 72 = yX7_add := rfl
theorem mC_72 : ll_mC 72 = cX7_add := rfl
theorem mL_72 : ll_mL 72 = 2 := rfl
theorem mR_72 : ll_mR 72 = none := rfl
theorem mK_72 : ll_mK 72 = some 7 := rfl
theorem mI_72 : ll_mI 72 = false := rfl
theorem mN_73 : ll_mN 73 = yX7_addAll := rfl
theorem mC_73 : ll_mC 73 = cX7_addAll := rfl
theorem mL_73 : ll_mL 73 = 3 := rfl
theorem mR_73 : ll_mR 73 = none := rfl
theorem mK_73 : ll_mK 73 = some 7 := rfl
theorem mI_73 : ll_mI 73 = false := rfl
theorem mN_74 : ll_mN 74 = yX7_addBracketed := rfl
theorem mC_74 : ll_mC 74 = cX7_addBracketed := rfl
theorem mL_74 : ll_mL 74 = 2 := rfl
theorem mR_74 : ll_mR 74 = none := rfl
theorem mK_74 : ll_mK 74 = some 7 := rfl
theorem mI_74 : ll_mI 74 = false := rfl
theorem mN_75 : ll_mN 75 = yX7_become := rfl
theorem mC_75 : ll_mC 75 = cX7_become := rfl
theorem mL_75 : ll_mL 75 = 2 := rfl
theorem mR_75 : ll_mR 75 = none := rfl
theorem mK_75 : ll_mK 75 = some 7 := rfl
theorem mI_75 : ll_mI 75 = false := rfl
theorem mN_76 : ll_mN 76 = yX7_setAt := rfl
theorem mC_76 : ll_mC 76 = cX7_setAt := rfl
theorem mL_76 : ll_mL 76 = 3 := rfl
theorem mR_76 : ll_mR 76 = none := rfl
theorem mK_76 : ll_mK 76 = some 7 := rfl
theorem mI_76 : ll_mI 76 = false := rfl
theorem mN_77 : ll_mN 77 = yX7_at := rfl
theorem mC_77 : ll_mC 77 = cX7_at := rfl
theorem mL_77 : ll_mL 77 = 2 := rfl
theorem mR_77 : ll_mR 77 = (some .int) := rfl
theorem mK_77 : ll_mK 77 = some 7 := rfl
theorem mI_77 : ll_mI 77 = false := rfl
theorem mN_78 : ll_mN 78 = yX7_countOf := rfl
theorem mC_78 : ll_mC 78 = cX7_countOf := rfl
theorem mL_78 : ll_mL 78 = 4 := rfl
theorem mR_78 : ll_mR 78 = (some .int) := rfl
theorem mK_78 : ll_mK 78 = some 7 := rfl
theorem mI_78 : ll_mI 78 = false := rfl
theorem mN_79 : ll_mN 79 = yX8_init := rfl
theorem mC_79 : ll_mC 79 = cX8_init := rfl
theorem mL_79 : ll_mL 79 = 2 := rfl
theorem mR_79 : ll_mR 79 = none := rfl
theorem mK_79 : ll_mK 79 = some 8 := rfl
theorem mI_79 : ll_mI 79 = true := rfl
theorem mN_80 : ll_mN 80 = yX8_clear := rfl
theorem mC_80 : ll_mC 80 = cX8_clear := rfl
theorem mL_80 : ll_mL 80 = 1 := rfl
theorem mR_80 : ll_mR 80 = none := rfl
theorem mK_80 : ll_mK 80 = some 8 := rfl
theorem mI_80 : ll_mI 80 = false := rfl
theorem mN_81 : ll_mN 81 = yX8_kindOf := rfl
theorem mC_81 : ll_mC 81 = cX8_kindOf := rfl
theorem mL_81 : ll_mL 81 = 2 := rfl
theorem mR_81 : ll_mR 81 = (some .int) := rfl
theorem mK_81 : ll_mK 81 = some 8 := rfl
theorem mI_81 : ll_mI 81 = false := rfl
theorem mN_82 : ll_mN 82 = yX8_childrenOf := rfl
theorem mC_82 : ll_mC 82 = cX8_childrenOf := rfl
theorem mL_82 : ll_mL 82 = 2 := rfl
theorem mR_82 : ll_mR 82 = (some .int) := rfl
theorem mK_82 : ll_mK 82 = some 8 := rfl
theorem mI_82 : ll_mI 82 = false := rfl
theorem mN_83 : ll_mN 83 = yX8_childOf := rfl
theorem mC_83 : ll_mC 83 = cX8_childOf := rfl
theorem mL_83 : ll_mL 83 = 4 := rfl
theorem mR_83 : ll_mR 83 = (some .int) := rfl
theorem mK_83 : ll_mK 83 = some 8 := rfl
theorem mI_83 : ll_mI 83 = false := rfl
theorem mN_84 : ll_mN 84 = yX8_shortestOf := rfl
theorem mC_84 : ll_mC 84 = cX8_shortestOf := rfl
theorem mL_84 : ll_mL 84 = 2 := rfl
theorem mR_84 : ll_mR 84 = (some .int) := rfl
theorem mK_84 : ll_mK 84 = some 8 := rfl
theorem mI_84 : ll_mI 84 = false := rfl
theorem mN_85 : ll_mN 85 = yX8_nestOf := rfl
theorem mC_85 : ll_mC 85 = cX8_nestOf := rfl
theorem mL_85 : ll_mL 85 = 2 := rfl
theorem mR_85 : ll_mR 85 = (some .int) := rfl
theorem mK_85 : ll_mK 85 = some 8 := rfl
theorem mI_85 : ll_mI 85 = false := rfl
theorem mN_86 : ll_mN 86 = yX8_isFull := rfl
theorem mC_86 : ll_mC 86 = cX8_isFull := rfl
theorem mL_86 : ll_mL 86 = 2 := rfl
theorem mR_86 : ll_mR 86 = (some .boolean) := rfl
theorem mK_86 : ll_mK 86 = some 8 := rfl
theorem mI_86 : ll_mI 86 = false := rfl
theorem mN_87 : ll_mN 87 = yX8_mark := rfl
theorem mC_87 : ll_mC 87 = cX8_mark := rfl
theorem mL_87 : ll_mL 87 = 1 := rfl
theorem mR_87 : ll_mR 87 = (some .int) := rfl
theorem mK_87 : ll_mK 87 = some 8 := rfl
theorem mI_87 : ll_mI 87 = false := rfl
theorem mN_88 : ll_mN 88 = yX8_addSummand := rfl
theorem mC_88 : ll_mC 88 = cX8_addSummand := rfl
theorem mL_88 : ll_mL 88 = 4 := rfl
theorem mR_88 : ll_mR 88 = none := rfl
theorem mK_88 : ll_mK 88 = some 8 := rfl
theorem mI_88 : ll_mI 88 = false := rfl
theorem mN_89 : ll_mN 89 = yX8_addFactor := rfl
theorem mC_89 : ll_mC 89 = cX8_addFactor := rfl
theorem mL_89 : ll_mL 89 = 3 := rfl
theorem mR_89 : ll_mR 89 = none := rfl
theorem mK_89 : ll_mK 89 = some 8 := rfl
theorem mI_89 : ll_mI 89 = false := rfl
theorem mN_90 : ll_mN 90 = yX8_closeSum := rfl
theorem mC_90 : ll_mC 90 = cX8_closeSum := rfl
theorem mL_90 : ll_mL 90 = 2 := rfl
theorem mR_90 : ll_mR 90 = (some .int) := rfl
theorem mK_90 : ll_mK 90 = some 8 := rfl
theorem mI_90 : ll_mI 90 = false := rfl
theorem mN_91 : ll_mN 91 = yX8_closeProduct := rfl
theorem mC_91 : ll_mC 91 = cX8_closeProduct := rfl
theorem mL_91 : ll_mL 91 = 3 := rfl
theorem mR_91 : ll_mR 91 = (some .int) := rfl
theorem mK_91 : ll_mK 91 = some 8 := rfl
theorem mI_91 : ll_mI 91 = false := rfl
theorem mN_92 : ll_mN 92 = yX8_starOf := rfl
theorem mC_92 : ll_mC 92 = cX8_starOf := rfl
theorem mL_92 : ll_mL 92 = 4 := rfl
theorem mR_92 : ll_mR 92 = (some .int) := rfl
theorem mK_92 : ll_mK 92 = some 8 := rfl
theorem mI_92 : ll_mI 92 = false := rfl
theorem mN_93 : ll_mN 93 = yX8_spell := rfl
theorem mC_93 : ll_mC 93 = cX8_spell := rfl
theorem mL_93 : ll_mL 93 = 4 := rfl
theorem mR_93 : ll_mR 93 = none := rfl
theorem mK_93 : ll_mK 93 = some 8 := rfl
theorem mI_93 : ll_mI 93 = false := rfl
theorem mN_94 : ll_mN 94 = yX8_spellNode := rfl
theorem mC_94 : ll_mC 94 = cX8_spellNode := rfl
theorem mL_94 : ll_mL 94 = 7 := rfl
theorem mR_94 : ll_mR 94 = none := rfl
theorem mK_94 : ll_mK 94 = some 8 := rfl
theorem mI_94 : ll_mI 94 = false := rfl
theorem mN_95 : ll_mN 95 = yX8_spellChildren := rfl
theorem mC_95 : ll_mC 95 = cX8_spellChildren := rfl
theorem mL_95 : ll_mL 95 = 6 := rfl
theorem mR_95 : ll_mR 95 = none := rfl
theorem mK_95 : ll_mK 95 = some 8 := rfl
theorem mI_95 : ll_mI 95 = false := rfl
theorem mN_96 : ll_mN 96 = yX8_push := rfl
theorem mC_96 : ll_mC 96 = cX8_push := rfl
theorem mL_96 : ll_mL 96 = 2 := rfl
theorem mR_96 : ll_mR 96 = none := rfl
theorem mK_96 : ll_mK 96 = some 8 := rfl
theorem mI_96 : ll_mI 96 = false := rfl
theorem mN_97 : ll_mN 97 = yX8_addOnce := rfl
theorem mC_97 : ll_mC 97 = cX8_addOnce := rfl
theorem mL_97 : ll_mL 97 = 4 := rfl
theorem mR_97 : ll_mR 97 = none := rfl
theorem mK_97 : ll_mK 97 = some 8 := rfl
theorem mI_97 : ll_mI 97 = false := rfl
theorem mN_98 : ll_mN 98 = yX8_close := rfl
theorem mC_98 : ll_mC 98 = cX8_close := rfl
theorem mL_98 : ll_mL 98 = 6 := rfl
theorem mR_98 : ll_mR 98 = (some .int) := rfl
theorem mK_98 : ll_mK 98 = some 8 := rfl
theorem mI_98 : ll_mI 98 = false := rfl
theorem mN_99 : ll_mN 99 = yX8_nodeOf := rfl
theorem mC_99 : ll_mC 99 = cX8_nodeOf := rfl
theorem mL_99 : ll_mL 99 = 4 := rfl
theorem mR_99 : ll_mR 99 = (some .int) := rfl
theorem mK_99 : ll_mK 99 = some 8 := rfl
theorem mI_99 : ll_mI 99 = false := rfl
theorem mN_100 : ll_mN 100 = yX8_hasChildren := rfl
theorem mC_100 : ll_mC 100 = cX8_hasChildren := rfl
theorem mL_100 : ll_mL 100 = 4 := rfl
theorem mR_100 : ll_mR 100 = (some .boolean) := rfl
theorem mK_100 : ll_mK 100 = some 8 := rfl
theorem mI_100 : ll_mI 100 = false := rfl
theorem mN_101 : ll_mN 101 = yX8_newNode := rfl
theorem mC_101 : ll_mC 101 = cX8_newNode := rfl
theorem mL_101 : ll_mL 101 = 9 := rfl
theorem mR_101 : ll_mR 101 = (some .int) := rfl
theorem mK_101 : ll_mK 101 = some 8 := rfl
theorem mI_101 : ll_mI 101 = false := rfl
theorem mN_102 : ll_mN 102 = yX9_init := rfl
theorem mC_102 : ll_mC 102 = cX9_init := rfl
theorem mL_102 : ll_mL 102 = 3 := rfl
theorem mR_102 : ll_mR 102 = none := rfl
theorem mK_102 : ll_mK 102 = some 9 := rfl
theorem mI_102 : ll_mI 102 = true := rfl
theorem mN_103 : ll_mN 103 = yX9_howMany := rfl
theorem mC_103 : ll_mC 103 = cX9_howMany := rfl
theorem mL_103 : ll_mL 103 = 5 := rfl
theorem mR_103 : ll_mR 103 = (some .int) := rfl
theorem mK_103 : ll_mK 103 = some 9 := rfl
theorem mI_103 : ll_mI 103 = false := rfl
theorem mN_104 : ll_mN 104 = yX9_nth := rfl
theorem mC_104 : ll_mC 104 = cX9_nth := rfl
theorem mL_104 : ll_mL 104 = 13 := rfl
theorem mR_104 : ll_mR 104 = (some .int) := rfl
theorem mK_104 : ll_mK 104 = some 9 := rfl
theorem mI_104 : ll_mI 104 = false := rfl
theorem mN_105 : ll_mN 105 = yX9_begin := rfl
theorem mC_105 : ll_mC 105 = cX9_begin := rfl
theorem mL_105 : ll_mL 105 = 4 := rfl
theorem mR_105 : ll_mR 105 = none := rfl
theorem mK_105 : ll_mK 105 = some 9 := rfl
theorem mI_105 : ll_mI 105 = false := rfl
theorem mN_106 : ll_mN 106 = yX9_startLeft := rfl
theorem mC_106 : ll_mC 106 = cX9_startLeft := rfl
theorem mL_106 : ll_mL 106 = 1 := rfl
theorem mR_106 : ll_mR 106 = (some .int) := rfl
theorem mK_106 : ll_mK 106 = some 9 := rfl
theorem mI_106 : ll_mI 106 = false := rfl
theorem mN_107 : ll_mN 107 = yX9_startRight := rfl
theorem mC_107 : ll_mC 107 = cX9_startRight := rfl
theorem mL_107 : ll_mL 107 = 1 := rfl
theorem mR_107 : ll_mR 107 = (some .int) := rfl
theorem mK_107 : ll_mK 107 = some 9 := rfl
theorem mI_107 : ll_mI 107 = false := rfl
theorem mN_108 : ll_mN 108 = yX9_countBehind := rfl
theorem mC_108 : ll_mC 108 = cX9_countBehind := rfl
theorem mL_108 : ll_mL 108 = 5 := rfl
theorem mR_108 : ll_mR 108 = (some .int) := rfl
theorem mK_108 : ll_mK 108 = some 9 := rfl
theorem mI_108 : ll_mI 108 = false := rfl
theorem mN_109 : ll_mN 109 = yX9_countFrom := rfl
theorem mC_109 : ll_mC 109 = cX9_countFrom := rfl
theorem mL_109 : ll_mL 109 = 7 := rfl
theorem mR_109 : ll_mR 109 = (some .int) := rfl
theorem mK_109 : ll_mK 109 = some 9 := rfl
theorem mI_109 : ll_mI 109 = false := rfl
theorem mN_110 : ll_mN 110 = yX9_fits := rfl
theorem mC_110 : ll_mC 110 = cX9_fits := rfl
theorem mL_110 : ll_mL 110 = 3 := rfl
theorem mR_110 : ll_mR 110 = (some .boolean) := rfl
theorem mK_110 : ll_mK 110 = some 9 := rfl
theorem mI_110 : ll_mI 110 = false := rfl
theorem mN_111 : ll_mN 111 = yX9_allWords := rfl
theorem mC_111 : ll_mC 111 = cX9_allWords := rfl
theorem mL_111 : ll_mL 111 = 3 := rfl
theorem mR_111 : ll_mR 111 = (some .int) := rfl
theorem mK_111 : ll_mK 111 = none := rfl
theorem mI_111 : ll_mI 111 = false := rfl
theorem mN_112 : ll_mN 112 = yX9_cellOf := rfl
theorem mC_112 : ll_mC 112 = cX9_cellOf := rfl
theorem mL_112 : ll_mL 112 = 4 := rfl
theorem mR_112 : ll_mR 112 = (some .int) := rfl
theorem mK_112 : ll_mK 112 = none := rfl
theorem mI_112 : ll_mI 112 = false := rfl
theorem mN_113 : ll_mN 113 = yX10_init := rfl
theorem mC_113 : ll_mC 113 = cX10_init := rfl
theorem mL_113 : ll_mL 113 = 3 := rfl
theorem mR_113 : ll_mR 113 = none := rfl
theorem mK_113 : ll_mK 113 = some 10 := rfl
theorem mI_113 : ll_mI 113 = true := rfl
theorem mN_114 : ll_mN 114 = yX10_write := rfl
theorem mC_114 : ll_mC 114 = cX10_write := rfl
theorem mL_114 : ll_mL 114 = 6 := rfl
theorem mR_114 : ll_mR 114 = (some .int) := rfl
theorem mK_114 : ll_mK 114 = some 10 := rfl
theorem mI_114 : ll_mI 114 = false := rfl
theorem mN_115 : ll_mN 115 = yX10_side := rfl
theorem mC_115 : ll_mC 115 = cX10_side := rfl
theorem mL_115 : ll_mL 115 = 5 := rfl
theorem mR_115 : ll_mR 115 = (some .int) := rfl
theorem mK_115 : ll_mK 115 = some 10 := rfl
theorem mI_115 : ll_mI 115 = false := rfl
theorem mN_116 : ll_mN 116 = yX10_fault := rfl
theorem mC_116 : ll_mC 116 = cX10_fault := rfl
theorem mL_116 : ll_mL 116 = 1 := rfl
theorem mR_116 : ll_mR 116 = (some .int) := rfl
theorem mK_116 : ll_mK 116 = some 10 := rfl
theorem mI_116 : ll_mI 116 = false := rfl
theorem mN_117 : ll_mN 117 = yX10_swap := rfl
theorem mC_117 : ll_mC 117 = cX10_swap := rfl
theorem mL_117 : ll_mL 117 = 2 := rfl
theorem mR_117 : ll_mR 117 = none := rfl
theorem mK_117 : ll_mK 117 = some 10 := rfl
theorem mI_117 : ll_mI 117 = false := rfl
theorem mN_118 : ll_mN 118 = yX10_keep := rfl
theorem mC_118 : ll_mC 118 = cX10_keep := rfl
theorem mL_118 : ll_mL 118 = 3 := rfl
theorem mR_118 : ll_mR 118 = (some .boolean) := rfl
theorem mK_118 : ll_mK 118 = some 10 := rfl
theorem mI_118 : ll_mI 118 = false := rfl
theorem mN_119 : ll_mN 119 = yX10_make := rfl
theorem mC_119 : ll_mC 119 = cX10_make := rfl
theorem mL_119 : ll_mL 119 = 7 := rfl
theorem mR_119 : ll_mR 119 = (some .int) := rfl
theorem mK_119 : ll_mK 119 = some 10 := rfl
theorem mI_119 : ll_mI 119 = false := rfl
theorem mN_120 : ll_mN 120 = yX10_shape := rfl
theorem mC_120 : ll_mC 120 = cX10_shape := rfl
theorem mL_120 : ll_mL 120 = 4 := rfl
theorem mR_120 : ll_mR 120 = (some .int) := rfl
theorem mK_120 : ll_mK 120 = some 10 := rfl
theorem mI_120 : ll_mI 120 = false := rfl
theorem mN_121 : ll_mN 121 = yX10_term := rfl
theorem mC_121 : ll_mC 121 = cX10_term := rfl
theorem mL_121 : ll_mL 121 = 5 := rfl
theorem mR_121 : ll_mR 121 = (some .int) := rfl
theorem mK_121 : ll_mK 121 = some 10 := rfl
theorem mI_121 : ll_mI 121 = false := rfl
theorem mN_122 : ll_mN 122 = yX10_like := rfl
theorem mC_122 : ll_mC 122 = cX10_like := rfl
theorem mL_122 : ll_mL 122 = 3 := rfl
theorem mR_122 : ll_mR 122 = (some .int) := rfl
theorem mK_122 : ll_mK 122 = some 10 := rfl
theorem mI_122 : ll_mI 122 = false := rfl
theorem mN_123 : ll_mN 123 = yX10_has := rfl
theorem mC_123 : ll_mC 123 = cX10_has := rfl
theorem mL_123 : ll_mL 123 = 3 := rfl
theorem mR_123 : ll_mR 123 = (some .boolean) := rfl
theorem mK_123 : ll_mK 123 = some 10 := rfl
theorem mI_123 : ll_mI 123 = false := rfl
theorem mN_124 : ll_mN 124 = yX10_words := rfl
theorem mC_124 : ll_mC 124 = cX10_words := rfl
theorem mL_124 : ll_mL 124 = 3 := rfl
theorem mR_124 : ll_mR 124 = (some .int) := rfl
theorem mK_124 : ll_mK 124 = some 10 := rfl
theorem mI_124 : ll_mI 124 = false := rfl
theorem mN_125 : ll_mN 125 = yX10_word := rfl
theorem mC_125 : ll_mC 125 = cX10_word := rfl
theorem mL_125 : ll_mL 125 = 4 := rfl
theorem mR_125 : ll_mR 125 = (some .int) := rfl
theorem mK_125 : ll_mK 125 = some 10 := rfl
theorem mI_125 : ll_mI 125 = false := rfl
theorem mN_126 : ll_mN 126 = yX10_prove := rfl
theorem mC_126 : ll_mC 126 = cX10_prove := rfl
theorem mL_126 : ll_mL 126 = 1 := rfl
theorem mR_126 : ll_mR 126 = (some .int) := rfl
theorem mK_126 : ll_mK 126 = some 10 := rfl
theorem mI_126 : ll_mI 126 = false := rfl
theorem mN_127 : ll_mN 127 = yX10_apart := rfl
theorem mC_127 : ll_mC 127 = cX10_apart := rfl
theorem mL_127 : ll_mL 127 = 3 := rfl
theorem mR_127 : ll_mR 127 = (some .int) := rfl
theorem mK_127 : ll_mK 127 = some 10 := rfl
theorem mI_127 : ll_mI 127 = false := rfl
theorem mN_128 : ll_mN 128 = yX10_count := rfl
theorem mC_128 : ll_mC 128 = cX10_count := rfl
theorem mL_128 : ll_mL 128 = 3 := rfl
theorem mR_128 : ll_mR 128 = (some .int) := rfl
theorem mK_128 : ll_mK 128 = some 10 := rfl
theorem mI_128 : ll_mI 128 = false := rfl
theorem mN_129 : ll_mN 129 = yX10_line := rfl
theorem mC_129 : ll_mC 129 = cX10_line := rfl
theorem mL_129 : ll_mL 129 = 4 := rfl
theorem mR_129 : ll_mR 129 = (some .int) := rfl
theorem mK_129 : ll_mK 129 = some 10 := rfl
theorem mI_129 : ll_mI 129 = false := rfl
theorem mN_130 : ll_mN 130 = yX10_alter := rfl
theorem mC_130 : ll_mC 130 = cX10_alter := rfl
theorem mL_130 : ll_mL 130 = 5 := rfl
theorem mR_130 : ll_mR 130 = (some .int) := rfl
theorem mK_130 : ll_mK 130 = some 10 := rfl
theorem mI_130 : ll_mI 130 = false := rfl
theorem mN_131 : ll_mN 131 = yX10_cut := rfl
theorem mC_131 : ll_mC 131 = cX10_cut := rfl
theorem mL_131 : ll_mL 131 = 1 := rfl
theorem mR_131 : ll_mR 131 = (some .int) := rfl
theorem mK_131 : ll_mK 131 = some 10 := rfl
theorem mI_131 : ll_mI 131 = false := rfl
theorem mN_132 : ll_mN 132 = yX10_check := rfl
theorem mC_132 : ll_mC 132 = cX10_check := rfl
theorem mL_132 : ll_mL 132 = 1 := rfl
theorem mR_132 : ll_mR 132 = (some .int) := rfl
theorem mK_132 : ll_mK 132 = some 10 := rfl
theorem mI_132 : ll_mI 132 = false := rfl
theorem mN_133 : ll_mN 133 = yX10_why := rfl
theorem mC_133 : ll_mC 133 = cX10_why := rfl
theorem mL_133 : ll_mL 133 = 2 := rfl
theorem mR_133 : ll_mR 133 = (some .int) := rfl
theorem mK_133 : ll_mK 133 = some 10 := rfl
theorem mI_133 : ll_mI 133 = false := rfl
theorem mN_134 : ll_mN 134 = yX10_same := rfl
theorem mC_134 : ll_mC 134 = cX10_same := rfl
theorem mL_134 : ll_mL 134 = 3 := rfl
theorem mR_134 : ll_mR 134 = (some .int) := rfl
theorem mK_134 : ll_mK 134 = some 10 := rfl
theorem mI_134 : ll_mI 134 = false := rfl
theorem mN_135 : ll_mN 135 = yX10_between := rfl
theorem mC_135 : ll_mC 135 = cX10_between := rfl
theorem mL_135 : ll_mL 135 = 3 := rfl
theorem mR_135 : ll_mR 135 = (some .int) := rfl
theorem mK_135 : ll_mK 135 = some 10 := rfl
theorem mI_135 : ll_mI 135 = false := rfl
theorem mN_136 : ll_mN 136 = yX10_image := rfl
theorem mC_136 : ll_mC 136 = cX10_image := rfl
theorem mL_136 : ll_mL 136 = 2 := rfl
theorem mR_136 : ll_mR 136 = (some .boolean) := rfl
theorem mK_136 : ll_mK 136 = some 10 := rfl
theorem mI_136 : ll_mI 136 = false := rfl
theorem mN_137 : ll_mN 137 = yX10_again := rfl
theorem mC_137 : ll_mC 137 = cX10_again := rfl
theorem mL_137 : ll_mL 137 = 2 := rfl
theorem mR_137 : ll_mR 137 = (some .boolean) := rfl
theorem mK_137 : ll_mK 137 = some 10 := rfl
theorem mI_137 : ll_mI 137 = false := rfl
theorem mN_138 : ll_mN 138 = yX10_isSide := rfl
theorem mC_138 : ll_mC 138 = cX10_isSide := rfl
theorem mL_138 : ll_mL 138 = 1 := rfl
theorem mR_138 : ll_mR 138 = (some .boolean) := rfl
theorem mK_138 : ll_mK 138 = none := rfl
theorem mI_138 : ll_mI 138 = false := rfl
theorem mN_139 : ll_mN 139 = yX10_isSlot := rfl
theorem mC_139 : ll_mC 139 = cX10_isSlot := rfl
theorem mL_139 : ll_mL 139 = 1 := rfl
theorem mR_139 : ll_mR 139 = (some .boolean) := rfl
theorem mK_139 : ll_mK 139 = none := rfl
theorem mI_139 : ll_mI 139 = false := rfl
theorem mN_140 : ll_mN 140 = yX10_canCount := rfl
theorem mC_140 : ll_mC 140 = cX10_canCount := rfl
theorem mL_140 : ll_mL 140 = 2 := rfl
theorem mR_140 : ll_mR 140 = (some .boolean) := rfl
theorem mK_140 : ll_mK 140 = none := rfl
theorem mI_140 : ll_mI 140 = false := rfl
theorem mN_141 : ll_mN 141 = yX10_byteOf := rfl
theorem mC_141 : ll_mC 141 = cX10_byteOf := rfl
theorem mL_141 : ll_mL 141 = 3 := rfl
theorem mR_141 : ll_mR 141 = (some .int) := rfl
theorem mK_141 : ll_mK 141 = none := rfl
theorem mI_141 : ll_mI 141 = false := rfl
theorem mN_142 : ll_mN 142 = yX10_bytesOf := rfl
theorem mC_142 : ll_mC 142 = cX10_bytesOf := rfl
theorem mL_142 : ll_mL 142 = 3 := rfl
theorem mR_142 : ll_mR 142 = (some .int) := rfl
theorem mK_142 : ll_mK 142 = none := rfl
theorem mI_142 : ll_mI 142 = false := rfl
theorem mN_143 : ll_mN 143 = yX10_replace := rfl
theorem mC_143 : ll_mC 143 = cX10_replace := rfl
theorem mL_143 : ll_mL 143 = 4 := rfl
theorem mR_143 : ll_mR 143 = (some .int) := rfl
theorem mK_143 : ll_mK 143 = none := rfl
theorem mI_143 : ll_mI 143 = false := rfl
theorem mN_144 : ll_mN 144 = yX10_faultOf := rfl
theorem mC_144 : ll_mC 144 = cX10_faultOf := rfl
theorem mL_144 : ll_mL 144 = 3 := rfl
theorem mR_144 : ll_mR 144 = (some .int) := rfl
theorem mK_144 : ll_mK 144 = some 10 := rfl
theorem mI_144 : ll_mI 144 = false := rfl
theorem mN_145 : ll_mN 145 = yX10_put := rfl
theorem mC_145 : ll_mC 145 = cX10_put := rfl
theorem mL_145 : ll_mL 145 = 3 := rfl
theorem mR_145 : ll_mR 145 = (some .int) := rfl
theorem mK_145 : ll_mK 145 = some 10 := rfl
theorem mI_145 : ll_mI 145 = false := rfl
theorem mN_146 : ll_mN 146 = yX10_readSlot := rfl
theorem mC_146 : ll_mC 146 = cX10_readSlot := rfl
theorem mL_146 : ll_mL 146 = 4 := rfl
theorem mR_146 : ll_mR 146 = (some .int) := rfl
theorem mK_146 : ll_mK 146 = some 10 := rfl
theorem mI_146 : ll_mI 146 = false := rfl
theorem mN_147 : ll_mN 147 = yX10_draftOf := rfl
theorem mC_147 : ll_mC 147 = cX10_draftOf := rfl
theorem mL_147 : ll_mL 147 = 4 := rfl
theorem mR_147 : ll_mR 147 = none := rfl
theorem mK_147 : ll_mK 147 = some 10 := rfl
theorem mI_147 : ll_mI 147 = false := rfl
theorem mN_148 : ll_mN 148 = yX10_tapeIsWordOf := rfl
theorem mC_148 : ll_mC 148 = cX10_tapeIsWordOf := rfl
theorem mL_148 : ll_mL 148 = 6 := rfl
theorem mR_148 : ll_mR 148 = (some .boolean) := rfl
theorem mK_148 : ll_mK 148 = some 10 := rfl
theorem mI_148 : ll_mI 148 = false := rfl
theorem mN_149 : ll_mN 149 = yX11_init := rfl
theorem mC_149 : ll_mC 149 = cX11_init := rfl
theorem mL_149 : ll_mL 149 = 2 := rfl
theorem mR_149 : ll_mR 149 = none := rfl
theorem mK_149 : ll_mK 149 = some 11 := rfl
theorem mI_149 : ll_mI 149 = true := rfl
theorem mN_150 : ll_mN 150 = yX11_zeroes := rfl
theorem mC_150 : ll_mC 150 = cX11_zeroes := rfl
theorem mL_150 : ll_mL 150 = 2 := rfl
theorem mR_150 : ll_mR 150 = none := rfl
theorem mK_150 : ll_mK 150 = some 11 := rfl
theorem mI_150 : ll_mI 150 = false := rfl
theorem mN_151 : ll_mN 151 = yX11_isIn := rfl
theorem mC_151 : ll_mC 151 = cX11_isIn := rfl
theorem mL_151 : ll_mL 151 = 3 := rfl
theorem mR_151 : ll_mR 151 = (some .boolean) := rfl
theorem mK_151 : ll_mK 151 = none := rfl
theorem mI_151 : ll_mI 151 = false := rfl
theorem mN_152 : ll_mN 152 = yX11_copies := rfl
theorem mC_152 : ll_mC 152 = cX11_copies := rfl
theorem mL_152 : ll_mL 152 = 5 := rfl
theorem mR_152 : ll_mR 152 = none := rfl
theorem mK_152 : ll_mK 152 = some 11 := rfl
theorem mI_152 : ll_mI 152 = false := rfl
theorem mN_153 : ll_mN 153 = yX11_clears := rfl
theorem mC_153 : ll_mC 153 = cX11_clears := rfl
theorem mL_153 : ll_mL 153 = 2 := rfl
theorem mR_153 : ll_mR 153 = none := rfl
theorem mK_153 : ll_mK 153 = some 11 := rfl
theorem mI_153 : ll_mI 153 = false := rfl
theorem mN_154 : ll_mN 154 = yX11_addsNode := rfl
theorem mC_154 : ll_mC 154 = cX11_addsNode := rfl
theorem mL_154 : ll_mL 154 = 5 := rfl
theorem mR_154 : ll_mR 154 = (some .int) := rfl
theorem mK_154 : ll_mK 154 = some 11 := rfl
theorem mI_154 : ll_mI 154 = false := rfl
theorem mN_155 : ll_mN 155 = yX11_joins := rfl
theorem mC_155 : ll_mC 155 = cX11_joins := rfl
theorem mL_155 : ll_mL 155 = 4 := rfl
theorem mR_155 : ll_mR 155 = none := rfl
theorem mK_155 : ll_mK 155 = some 11 := rfl
theorem mI_155 : ll_mI 155 = false := rfl
theorem mN_156 : ll_mN 156 = yX11_kept := rfl
theorem mC_156 : ll_mC 156 = cX11_kept := rfl
theorem mL_156 : ll_mL 156 = 6 := rfl
theorem mR_156 : ll_mR 156 = (some .int) := rfl
theorem mK_156 : ll_mK 156 = some 11 := rfl
theorem mI_156 : ll_mI 156 = false := rfl
theorem mN_157 : ll_mN 157 = yX11_notes := rfl
theorem mC_157 : ll_mC 157 = cX11_notes := rfl
theorem mL_157 : ll_mL 157 = 4 := rfl
theorem mR_157 : ll_mR 157 = none := rfl
theorem mK_157 : ll_mK 157 = some 11 := rfl
theorem mI_157 : ll_mI 157 = false := rfl
theorem mN_158 : ll_mN 158 = yX11_sum := rfl
theorem mC_158 : ll_mC 158 = cX11_sum := rfl
theorem mL_158 : ll_mL 158 = 7 := rfl
theorem mR_158 : ll_mR 158 = (some .int) := rfl
theorem mK_158 : ll_mK 158 = some 11 := rfl
theorem mI_158 : ll_mI 158 = false := rfl
theorem mN_159 : ll_mN 159 = yX11_product := rfl
theorem mC_159 : ll_mC 159 = cX11_product := rfl
theorem mL_159 : ll_mL 159 = 7 := rfl
theorem mR_159 : ll_mR 159 = (some .int) := rfl
theorem mK_159 : ll_mK 159 = some 11 := rfl
theorem mI_159 : ll_mI 159 = false := rfl
theorem mN_160 : ll_mN 160 = yX11_star := rfl
theorem mC_160 : ll_mC 160 = cX11_star := rfl
theorem mL_160 : ll_mL 160 = 2 := rfl
theorem mR_160 : ll_mR 160 = (some .int) := rfl
theorem mK_160 : ll_mK 160 = some 11 := rfl
theorem mI_160 : ll_mI 160 = false := rfl
theorem mN_161 : ll_mN 161 = yX11_behind := rfl
theorem mC_161 : ll_mC 161 = cX11_behind := rfl
theorem mL_161 : ll_mL 161 = 6 := rfl
theorem mR_161 : ll_mR 161 = (some .int) := rfl
theorem mK_161 : ll_mK 161 = some 11 := rfl
theorem mI_161 : ll_mI 161 = false := rfl
theorem mN_162 : ll_mN 162 = yX11_opens := rfl
theorem mC_162 : ll_mC 162 = cX11_opens := rfl
theorem mL_162 : ll_mL 162 = 1 := rfl
theorem mR_162 : ll_mR 162 = none := rfl
theorem mK_162 : ll_mK 162 = some 11 := rfl
theorem mI_162 : ll_mI 162 = false := rfl
theorem mN_163 : ll_mN 163 = yX11_addsFactor := rfl
theorem mC_163 : ll_mC 163 = cX11_addsFactor := rfl
theorem mL_163 : ll_mL 163 = 2 := rfl
theorem mR_163 : ll_mR 163 = none := rfl
theorem mK_163 : ll_mK 163 = some 11 := rfl
theorem mI_163 : ll_mI 163 = false := rfl
theorem mN_164 : ll_mN 164 = yX11_endsProduct := rfl
theorem mC_164 : ll_mC 164 = cX11_endsProduct := rfl
theorem mL_164 : ll_mL 164 = 1 := rfl
theorem mR_164 : ll_mR 164 = none := rfl
theorem mK_164 : ll_mK 164 = some 11 := rfl
theorem mI_164 : ll_mI 164 = false := rfl
theorem mN_165 : ll_mN 165 = yX11_endsSum := rfl
theorem mC_165 : ll_mC 165 = cX11_endsSum := rfl
theorem mL_165 : ll_mL 165 = 1 := rfl
theorem mR_165 : ll_mR 165 = (some .int) := rfl
theorem mK_165 : ll_mK 165 = some 11 := rfl
theorem mI_165 : ll_mI 165 = false := rfl
theorem mN_166 : ll_mN 166 = yX11_told := rfl
theorem mC_166 : ll_mC 166 = cX11_told := rfl
theorem mL_166 : ll_mL 166 = 9 := rfl
theorem mR_166 : ll_mR 166 = (some .int) := rfl
theorem mK_166 : ll_mK 166 = some 11 := rfl
theorem mI_166 : ll_mI 166 = false := rfl
theorem mN_167 : ll_mN 167 = yX11_pushes := rfl
theorem mC_167 : ll_mC 167 = cX11_pushes := rfl
theorem mL_167 : ll_mL 167 = 3 := rfl
theorem mR_167 : ll_mR 167 = none := rfl
theorem mK_167 : ll_mK 167 = some 11 := rfl
theorem mI_167 : ll_mI 167 = false := rfl
theorem mN_168 : ll_mN 168 = yX11_pushesByte := rfl
theorem mC_168 : ll_mC 168 = cX11_pushesByte := rfl
theorem mL_168 : ll_mL 168 = 2 := rfl
theorem mR_168 : ll_mR 168 = none := rfl
theorem mK_168 : ll_mK 168 = some 11 := rfl
theorem mI_168 : ll_mI 168 = false := rfl
theorem mN_169 : ll_mN 169 = yX11_spells := rfl
theorem mC_169 : ll_mC 169 = cX11_spells := rfl
theorem mL_169 : ll_mL 169 = 3 := rfl
theorem mR_169 : ll_mR 169 = none := rfl
theorem mK_169 : ll_mK 169 = some 11 := rfl
theorem mI_169 : ll_mI 169 = false := rfl
theorem mN_170 : ll_mN 170 = yX11_spellsOne := rfl
theorem mC_170 : ll_mC 170 = cX11_spellsOne := rfl
theorem mL_170 : ll_mL 170 = 6 := rfl
theorem mR_170 : ll_mR 170 = none := rfl
theorem mK_170 : ll_mK 170 = some 11 := rfl
theorem mI_170 : ll_mI 170 = false := rfl
theorem mN_171 : ll_mN 171 = yX11_lacks := rfl
theorem mC_171 : ll_mC 171 = cX11_lacks := rfl
theorem mL_171 : ll_mL 171 = 5 := rfl
theorem mR_171 : ll_mR 171 = (some .int) := rfl
theorem mK_171 : ll_mK 171 = some 11 := rfl
theorem mI_171 : ll_mI 171 = false := rfl
theorem mN_172 : ll_mN 172 = yX11_lays := rfl
theorem mC_172 : ll_mC 172 = cX11_lays := rfl
theorem mL_172 : ll_mL 172 = 3 := rfl
theorem mR_172 : ll_mR 172 = none := rfl
theorem mK_172 : ll_mK 172 = some 11 := rfl
theorem mI_172 : ll_mI 172 = false := rfl
theorem mN_173 : ll_mN 173 = yX11_partOf := rfl
theorem mC_173 : ll_mC 173 = cX11_partOf := rfl
theorem mL_173 : ll_mL 173 = 4 := rfl
theorem mR_173 : ll_mR 173 = (some .int) := rfl
theorem mK_173 : ll_mK 173 = some 11 := rfl
theorem mI_173 : ll_mI 173 = false := rfl
theorem mN_174 : ll_mN 174 = yX11_laysParts := rfl
theorem mC_174 : ll_mC 174 = cX11_laysParts := rfl
theorem mL_174 : ll_mL 174 = 6 := rfl
theorem mR_174 : ll_mR 174 = none := rfl
theorem mK_174 : ll_mK 174 = some 11 := rfl
theorem mI_174 : ll_mI 174 = false := rfl
theorem mN_175 : ll_mN 175 = yX11_withStar := rfl
theorem mC_175 : ll_mC 175 = cX11_withStar := rfl
theorem mL_175 : ll_mL 175 = 3 := rfl
theorem mR_175 : ll_mR 175 = (some .int) := rfl
theorem mK_175 : ll_mK 175 = some 11 := rfl
theorem mI_175 : ll_mI 175 = false := rfl
theorem mN_176 : ll_mN 176 = yX11_needs := rfl
theorem mC_176 : ll_mC 176 = cX11_needs := rfl
theorem mL_176 : ll_mL 176 = 5 := rfl
theorem mR_176 : ll_mR 176 = none := rfl
theorem mK_176 : ll_mK 176 = some 11 := rfl
theorem mI_176 : ll_mI 176 = false := rfl
theorem mN_177 : ll_mN 177 = yX11_termBy := rfl
theorem mC_177 : ll_mC 177 = cX11_termBy := rfl
theorem mL_177 : ll_mL 177 = 4 := rfl
theorem mR_177 : ll_mR 177 = (some .int) := rfl
theorem mK_177 : ll_mK 177 = some 11 := rfl
theorem mI_177 : ll_mI 177 = false := rfl
theorem mN_178 : ll_mN 178 = yX11_laysTerms := rfl
theorem mC_178 : ll_mC 178 = cX11_laysTerms := rfl
theorem mL_178 : ll_mL 178 = 5 := rfl
theorem mR_178 : ll_mR 178 = none := rfl
theorem mK_178 : ll_mK 178 = some 11 := rfl
theorem mI_178 : ll_mI 178 = false := rfl
theorem mN_179 : ll_mN 179 = yX11_laysRow := rfl
theorem mC_179 : ll_mC 179 = cX11_laysRow := rfl
theorem mL_179 : ll_mL 179 = 9 := rfl
theorem mR_179 : ll_mR 179 = none := rfl
theorem mK_179 : ll_mK 179 = some 11 := rfl
theorem mI_179 : ll_mI 179 = false := rfl
theorem mN_180 : ll_mN 180 = yX11_laysBoth := rfl
theorem mC_180 : ll_mC 180 = cX11_laysBoth := rfl
theorem mL_180 : ll_mL 180 = 5 := rfl
theorem mR_180 : ll_mR 180 = none := rfl
theorem mK_180 : ll_mK 180 = some 11 := rfl
theorem mI_180 : ll_mI 180 = false := rfl
theorem mN_181 : ll_mN 181 = yX11_isFull := rfl
theorem mC_181 : ll_mC 181 = cX11_isFull := rfl
theorem mL_181 : ll_mL 181 = 3 := rfl
theorem mR_181 : ll_mR 181 = (some .boolean) := rfl
theorem mK_181 : ll_mK 181 = some 11 := rfl
theorem mI_181 : ll_mI 181 = false := rfl
theorem mN_182 : ll_mN 182 = yX11_isFullSet := rfl
theorem mC_182 : ll_mC 182 = cX11_isFullSet := rfl
theorem mL_182 : ll_mL 182 = 4 := rfl
theorem mR_182 : ll_mR 182 = (some .boolean) := rfl
theorem mK_182 : ll_mK 182 = some 11 := rfl
theorem mI_182 : ll_mI 182 = false := rfl
theorem mN_183 : ll_mN 183 = yX11_partsOf := rfl
theorem mC_183 : ll_mC 183 = cX11_partsOf := rfl
theorem mL_183 : ll_mL 183 = 6 := rfl
theorem mR_183 : ll_mR 183 = (some .int) := rfl
theorem mK_183 : ll_mK 183 = some 11 := rfl
theorem mI_183 : ll_mI 183 = false := rfl
theorem mN_184 : ll_mN 184 = yX11_isMember := rfl
theorem mC_184 : ll_mC 184 = cX11_isMember := rfl
theorem mL_184 : ll_mL 184 = 4 := rfl
theorem mR_184 : ll_mR 184 = (some .boolean) := rfl
theorem mK_184 : ll_mK 184 = some 11 := rfl
theorem mI_184 : ll_mI 184 = false := rfl
theorem mN_185 : ll_mN 185 = yX11_lineWith := rfl
theorem mC_185 : ll_mC 185 = cX11_lineWith := rfl
theorem mL_185 : ll_mL 185 = 5 := rfl
theorem mR_185 : ll_mR 185 = (some .int) := rfl
theorem mK_185 : ll_mK 185 = some 11 := rfl
theorem mI_185 : ll_mI 185 = false := rfl
theorem mN_186 : ll_mN 186 = yX11_newLine := rfl
theorem mC_186 : ll_mC 186 = cX11_newLine := rfl
theorem mL_186 : ll_mL 186 = 7 := rfl
theorem mR_186 : ll_mR 186 = none := rfl
theorem mK_186 : ll_mK 186 = some 11 := rfl
theorem mI_186 : ll_mI 186 = false := rfl
theorem mN_187 : ll_mN 187 = yX11_steps := rfl
theorem mC_187 : ll_mC 187 = cX11_steps := rfl
theorem mL_187 : ll_mL 187 = 11 := rfl
theorem mR_187 : ll_mR 187 = (some .boolean) := rfl
theorem mK_187 : ll_mK 187 = some 11 := rfl
theorem mI_187 : ll_mI 187 = false := rfl
theorem mN_188 : ll_mN 188 = yX11_tellsWord := rfl
theorem mC_188 : ll_mC 188 = cX11_tellsWord := rfl
theorem mL_188 : ll_mL 188 = 6 := rfl
theorem mR_188 : ll_mR 188 = none := rfl
theorem mK_188 : ll_mK 188 = some 11 := rfl
theorem mI_188 : ll_mI 188 = false := rfl
theorem mN_189 : ll_mN 189 = yX11_searches := rfl
theorem mC_189 : ll_mC 189 = cX11_searches := rfl
theorem mL_189 : ll_mL 189 = 5 := rfl
theorem mR_189 : ll_mR 189 = (some .int) := rfl
theorem mK_189 : ll_mK 189 = some 11 := rfl
theorem mI_189 : ll_mI 189 = false := rfl
theorem mN_190 : ll_mN 190 = yX11_forgets := rfl
theorem mC_190 : ll_mC 190 = cX11_forgets := rfl
theorem mL_190 : ll_mL 190 = 2 := rfl
theorem mR_190 : ll_mR 190 = none := rfl
theorem mK_190 : ll_mK 190 = some 11 := rfl
theorem mI_190 : ll_mI 190 = false := rfl
theorem mN_191 : ll_mN 191 = yX11_prove := rfl
theorem mC_191 : ll_mC 191 = cX11_prove := rfl
theorem mL_191 : ll_mL 191 = 1 := rfl
theorem mR_191 : ll_mR 191 = (some .int) := rfl
theorem mK_191 : ll_mK 191 = some 11 := rfl
theorem mI_191 : ll_mI 191 = false := rfl
theorem mN_192 : ll_mN 192 = yX11_tried := rfl
theorem mC_192 : ll_mC 192 = cX11_tried := rfl
theorem mL_192 : ll_mL 192 = 3 := rfl
theorem mR_192 : ll_mR 192 = (some .int) := rfl
theorem mK_192 : ll_mK 192 = some 11 := rfl
theorem mI_192 : ll_mI 192 = false := rfl
theorem mN_193 : ll_mN 193 = yX11_same := rfl
theorem mC_193 : ll_mC 193 = cX11_same := rfl
theorem mL_193 : ll_mL 193 = 3 := rfl
theorem mR_193 : ll_mR 193 = (some .int) := rfl
theorem mK_193 : ll_mK 193 = some 11 := rfl
theorem mI_193 : ll_mI 193 = false := rfl
theorem mN_194 : ll_mN 194 = yX11_isSlot := rfl
theorem mC_194 : ll_mC 194 = cX11_isSlot := rfl
theorem mL_194 : ll_mL 194 = 1 := rfl
theorem mR_194 : ll_mR 194 = (some .boolean) := rfl
theorem mK_194 : ll_mK 194 = none := rfl
theorem mI_194 : ll_mI 194 = false := rfl
theorem mN_195 : ll_mN 195 = yX11_between := rfl
theorem mC_195 : ll_mC 195 = cX11_between := rfl
theorem mL_195 : ll_mL 195 = 3 := rfl
theorem mR_195 : ll_mR 195 = (some .int) := rfl
theorem mK_195 : ll_mK 195 = some 11 := rfl
theorem mI_195 : ll_mI 195 = false := rfl
theorem mN_196 : ll_mN 196 = yX11_apart := rfl
theorem mC_196 : ll_mC 196 = cX11_apart := rfl
theorem mL_196 : ll_mL 196 = 2 := rfl
theorem mR_196 : ll_mR 196 = (some .int) := rfl
theorem mK_196 : ll_mK 196 = some 11 := rfl
theorem mI_196 : ll_mI 196 = false := rfl
theorem mN_197 : ll_mN 197 = yX11_line := rfl
theorem mC_197 : ll_mC 197 = cX11_line := rfl
theorem mL_197 : ll_mL 197 = 3 := rfl
theorem mR_197 : ll_mR 197 = (some .int) := rfl
theorem mK_197 : ll_mK 197 = some 11 := rfl
theorem mI_197 : ll_mI 197 = false := rfl
theorem mN_198 : ll_mN 198 = yX11_placeOf := rfl
theorem mC_198 : ll_mC 198 = cX11_placeOf := rfl
theorem mL_198 : ll_mL 198 = 2 := rfl
theorem mR_198 : ll_mR 198 = (some .int) := rfl
theorem mK_198 : ll_mK 198 = none := rfl
theorem mI_198 : ll_mI 198 = false := rfl
theorem mN_199 : ll_mN 199 = yX11_alter := rfl
theorem mC_199 : ll_mC 199 = cX11_alter := rfl
theorem mL_199 : ll_mL 199 = 6 := rfl
theorem mR_199 : ll_mR 199 = (some .int) := rfl
theorem mK_199 : ll_mK 199 = some 11 := rfl
theorem mI_199 : ll_mI 199 = false := rfl
theorem mN_200 : ll_mN 200 = yX11_cut := rfl
theorem mC_200 : ll_mC 200 = cX11_cut := rfl
theorem mL_200 : ll_mL 200 = 1 := rfl
theorem mR_200 : ll_mR 200 = (some .int) := rfl
theorem mK_200 : ll_mK 200 = some 11 := rfl
theorem mI_200 : ll_mI 200 = false := rfl
theorem mN_201 : ll_mN 201 = yX11_isTold := rfl
theorem mC_201 : ll_mC 201 = cX11_isTold := rfl
theorem mL_201 : ll_mL 201 = 4 := rfl
theorem mR_201 : ll_mR 201 = (some .boolean) := rfl
theorem mK_201 : ll_mK 201 = some 11 := rfl
theorem mI_201 : ll_mI 201 = false := rfl
theorem mN_202 : ll_mN 202 = yX11_count := rfl
theorem mC_202 : ll_mC 202 = cX11_count := rfl
theorem mL_202 : ll_mL 202 = 4 := rfl
theorem mR_202 : ll_mR 202 = (some .int) := rfl
theorem mK_202 : ll_mK 202 = some 11 := rfl
theorem mI_202 : ll_mI 202 = false := rfl
theorem mN_203 : ll_mN 203 = yX11_hasPremise := rfl
theorem mC_203 : ll_mC 203 = cX11_hasPremise := rfl
theorem mL_203 : ll_mL 203 = 6 := rfl
theorem mR_203 : ll_mR 203 = (some .boolean) := rfl
theorem mK_203 : ll_mK 203 = some 11 := rfl
theorem mI_203 : ll_mI 203 = false := rfl
theorem mN_204 : ll_mN 204 = yX11_reason := rfl
theorem mC_204 : ll_mC 204 = cX11_reason := rfl
theorem mL_204 : ll_mL 204 = 9 := rfl
theorem mR_204 : ll_mR 204 = (some .int) := rfl
theorem mK_204 : ll_mK 204 = some 11 := rfl
theorem mI_204 : ll_mI 204 = false := rfl
theorem mN_205 : ll_mN 205 = yX11_bad := rfl
theorem mC_205 : ll_mC 205 = cX11_bad := rfl
theorem mL_205 : ll_mL 205 = 2 := rfl
theorem mR_205 : ll_mR 205 = (some .int) := rfl
theorem mK_205 : ll_mK 205 = some 11 := rfl
theorem mI_205 : ll_mI 205 = false := rfl
theorem mN_206 : ll_mN 206 = yX11_check := rfl
theorem mC_206 : ll_mC 206 = cX11_check := rfl
theorem mL_206 : ll_mL 206 = 1 := rfl
theorem mR_206 : ll_mR 206 = (some .int) := rfl
theorem mK_206 : ll_mK 206 = some 11 := rfl
theorem mI_206 : ll_mI 206 = false := rfl
theorem mN_207 : ll_mN 207 = yX11_why := rfl
theorem mC_207 : ll_mC 207 = cX11_why := rfl
theorem mL_207 : ll_mL 207 = 3 := rfl
theorem mR_207 : ll_mR 207 = (some .int) := rfl
theorem mK_207 : ll_mK 207 = some 11 := rfl
theorem mI_207 : ll_mI 207 = false := rfl
theorem mN_208 : ll_mN 208 = yX11_write := rfl
theorem mC_208 : ll_mC 208 = cX11_write := rfl
theorem mL_208 : ll_mL 208 = 5 := rfl
theorem mR_208 : ll_mR 208 = (some .int) := rfl
theorem mK_208 : ll_mK 208 = some 11 := rfl
theorem mI_208 : ll_mI 208 = false := rfl
theorem mN_209 : ll_mN 209 = yX11_isSide := rfl
theorem mC_209 : ll_mC 209 = cX11_isSide := rfl
theorem mL_209 : ll_mL 209 = 1 := rfl
theorem mR_209 : ll_mR 209 = (some .boolean) := rfl
theorem mK_209 : ll_mK 209 = none := rfl
theorem mI_209 : ll_mI 209 = false := rfl
theorem mN_210 : ll_mN 210 = yX11_becomes := rfl
theorem mC_210 : ll_mC 210 = cX11_becomes := rfl
theorem mL_210 : ll_mL 210 = 4 := rfl
theorem mR_210 : ll_mR 210 = (some .int) := rfl
theorem mK_210 : ll_mK 210 = some 11 := rfl
theorem mI_210 : ll_mI 210 = false := rfl
theorem mN_211 : ll_mN 211 = yX11_side := rfl
theorem mC_211 : ll_mC 211 = cX11_side := rfl
theorem mL_211 : ll_mL 211 = 4 := rfl
theorem mR_211 : ll_mR 211 = (some .int) := rfl
theorem mK_211 : ll_mK 211 = some 11 := rfl
theorem mI_211 : ll_mI 211 = false := rfl
theorem mN_212 : ll_mN 212 = yX11_fault := rfl
theorem mC_212 : ll_mC 212 = cX11_fault := rfl
theorem mL_212 : ll_mL 212 = 1 := rfl
theorem mR_212 : ll_mR 212 = (some .int) := rfl
theorem mK_212 : ll_mK 212 = some 11 := rfl
theorem mI_212 : ll_mI 212 = false := rfl
theorem mN_213 : ll_mN 213 = yX11_swap := rfl
theorem mC_213 : ll_mC 213 = cX11_swap := rfl
theorem mL_213 : ll_mL 213 = 1 := rfl
theorem mR_213 : ll_mR 213 = none := rfl
theorem mK_213 : ll_mK 213 = some 11 := rfl
theorem mI_213 : ll_mI 213 = false := rfl
theorem mN_214 : ll_mN 214 = yX11_keep := rfl
theorem mC_214 : ll_mC 214 = cX11_keep := rfl
theorem mL_214 : ll_mL 214 = 3 := rfl
theorem mR_214 : ll_mR 214 = (some .boolean) := rfl
theorem mK_214 : ll_mK 214 = some 11 := rfl
theorem mI_214 : ll_mI 214 = false := rfl
theorem mN_215 : ll_mN 215 = yX11_make := rfl
theorem mC_215 : ll_mC 215 = cX11_make := rfl
theorem mL_215 : ll_mL 215 = 8 := rfl
theorem mR_215 : ll_mR 215 = (some .int) := rfl
theorem mK_215 : ll_mK 215 = some 11 := rfl
theorem mI_215 : ll_mI 215 = false := rfl
theorem mN_216 : ll_mN 216 = yX11_spelled := rfl
theorem mC_216 : ll_mC 216 = cX11_spelled := rfl
theorem mL_216 : ll_mL 216 = 4 := rfl
theorem mR_216 : ll_mR 216 = (some .int) := rfl
theorem mK_216 : ll_mK 216 = some 11 := rfl
theorem mI_216 : ll_mI 216 = false := rfl
theorem mN_217 : ll_mN 217 = yX11_byteAt := rfl
theorem mC_217 : ll_mC 217 = cX11_byteAt := rfl
theorem mL_217 : ll_mL 217 = 2 := rfl
theorem mR_217 : ll_mR 217 = (some .int) := rfl
theorem mK_217 : ll_mK 217 = some 11 := rfl
theorem mI_217 : ll_mI 217 = false := rfl
theorem mN_218 : ll_mN 218 = yX11_shape := rfl
theorem mC_218 : ll_mC 218 = cX11_shape := rfl
theorem mL_218 : ll_mL 218 = 4 := rfl
theorem mR_218 : ll_mR 218 = (some .int) := rfl
theorem mK_218 : ll_mK 218 = some 11 := rfl
theorem mI_218 : ll_mI 218 = false := rfl
theorem mN_219 : ll_mN 219 = yX11_term := rfl
theorem mC_219 : ll_mC 219 = cX11_term := rfl
theorem mL_219 : ll_mL 219 = 4 := rfl
theorem mR_219 : ll_mR 219 = (some .int) := rfl
theorem mK_219 : ll_mK 219 = some 11 := rfl
theorem mI_219 : ll_mI 219 = false := rfl
theorem mN_220 : ll_mN 220 = yX11_like := rfl
theorem mC_220 : ll_mC 220 = cX11_like := rfl
theorem mL_220 : ll_mL 220 = 3 := rfl
theorem mR_220 : ll_mR 220 = (some .int) := rfl
theorem mK_220 : ll_mK 220 = some 11 := rfl
theorem mI_220 : ll_mI 220 = false := rfl
theorem mN_221 : ll_mN 221 = yX11_has := rfl
theorem mC_221 : ll_mC 221 = cX11_has := rfl
theorem mL_221 : ll_mL 221 = 5 := rfl
theorem mR_221 : ll_mR 221 = (some .boolean) := rfl
theorem mK_221 : ll_mK 221 = some 11 := rfl
theorem mI_221 : ll_mI 221 = false := rfl
theorem mN_222 : ll_mN 222 = yX11_isWord := rfl
theorem mC_222 : ll_mC 222 = cX11_isWord := rfl
theorem mL_222 : ll_mL 222 = 5 := rfl
theorem mR_222 : ll_mR 222 = (some .boolean) := rfl
theorem mK_222 : ll_mK 222 = some 11 := rfl
theorem mI_222 : ll_mI 222 = false := rfl
theorem mN_223 : ll_mN 223 = yX11_isOne := rfl
theorem mC_223 : ll_mC 223 = cX11_isOne := rfl
theorem mL_223 : ll_mL 223 = 5 := rfl
theorem mR_223 : ll_mR 223 = (some .boolean) := rfl
theorem mK_223 : ll_mK 223 = some 11 := rfl
theorem mI_223 : ll_mI 223 = false := rfl
theorem mN_224 : ll_mN 224 = yX11_goesOn := rfl
theorem mC_224 : ll_mC 224 = cX11_goesOn := rfl
theorem mL_224 : ll_mL 224 = 3 := rfl
theorem mR_224 : ll_mR 224 = (some .boolean) := rfl
theorem mK_224 : ll_mK 224 = some 11 := rfl
theorem mI_224 : ll_mI 224 = false := rfl
theorem mN_225 : ll_mN 225 = yX11_number := rfl
theorem mC_225 : ll_mC 225 = cX11_number := rfl
theorem mL_225 : ll_mL 225 = 4 := rfl
theorem mR_225 : ll_mR 225 = (some .int) := rfl
theorem mK_225 : ll_mK 225 = some 11 := rfl
theorem mI_225 : ll_mI 225 = false := rfl
theorem mN_226 : ll_mN 226 = yX11_listed := rfl
theorem mC_226 : ll_mC 226 = cX11_listed := rfl
theorem mL_226 : ll_mL 226 = 6 := rfl
theorem mR_226 : ll_mR 226 = (some .int) := rfl
theorem mK_226 : ll_mK 226 = some 11 := rfl
theorem mI_226 : ll_mI 226 = false := rfl
theorem mN_227 : ll_mN 227 = yX11_words := rfl
theorem mC_227 : ll_mC 227 = cX11_words := rfl
theorem mL_227 : ll_mL 227 = 3 := rfl
theorem mR_227 : ll_mR 227 = (some .int) := rfl
theorem mK_227 : ll_mK 227 = some 11 := rfl
theorem mI_227 : ll_mI 227 = false := rfl
theorem mN_228 : ll_mN 228 = yX11_word := rfl
theorem mC_228 : ll_mC 228 = cX11_word := rfl
theorem mL_228 : ll_mL 228 = 4 := rfl
theorem mR_228 : ll_mR 228 = (some .int) := rfl
theorem mK_228 : ll_mK 228 = some 11 := rfl
theorem mI_228 : ll_mI 228 = false := rfl
theorem mN_229 : ll_mN 229 = yX11_image := rfl
theorem mC_229 : ll_mC 229 = cX11_image := rfl
theorem mL_229 : ll_mL 229 = 4 := rfl
theorem mR_229 : ll_mR 229 = (some .boolean) := rfl
theorem mK_229 : ll_mK 229 = some 11 := rfl
theorem mI_229 : ll_mI 229 = false := rfl
theorem mN_230 : ll_mN 230 = yX11_again := rfl
theorem mC_230 : ll_mC 230 = cX11_again := rfl
theorem mL_230 : ll_mL 230 = 4 := rfl
theorem mR_230 : ll_mR 230 = (some .boolean) := rfl
theorem mK_230 : ll_mK 230 = some 11 := rfl
theorem mI_230 : ll_mI 230 = false := rfl
theorem mN_231 : ll_mN 231 = yJ7_fill_53178 := rfl
theorem mC_231 : ll_mC 231 = cJ7_fill_53178 := rfl
theorem mL_231 : ll_mL 231 = 4 := rfl
theorem mR_231 : ll_mR 231 = none := rfl
theorem mK_231 : ll_mK 231 = none := rfl
theorem mI_231 : ll_mI 231 = false := rfl
theorem mN_232 : ll_mN 232 = yL_law := rfl
theorem mC_232 : ll_mC 232 = cL_law := rfl
theorem mL_232 : ll_mL 232 = 4 := rfl
theorem mR_232 : ll_mR 232 = (some .boolean) := rfl
theorem mK_232 : ll_mK 232 = none := rfl
theorem mI_232 : ll_mI 232 = false := rfl
theorem lm_0 : ll_M ll_mN ll_mC ll_mL ll_mR ll_mI 0 := by
  unfold ll_M
  rw [mN_0, mC_0, mL_0, mR_0, mI_0]
  exact ⟨tb_976, tb_470, by decide +kernel, ⟨by decide +kernel, by decide +kernel⟩, by decide, fun _ => rfl⟩
theorem lm_1 : ll_M ll_mN ll_mC ll_mL ll_mR ll_mI 1 := by
  unfold ll_M
  rw [mN_1, mC_1, mL_1, mR_1, mI_1]
  exact ⟨tb_977, tb_470, by decide +kernel, ⟨by decide +kernel, by decide +kernel⟩, by decide, fun h => by cases h⟩
theorem lm_2 : ll_M ll_mN ll_mC ll_mL ll_mR ll_mI 2 := by
  unfold ll_M
  rw [mN_2, mC_2, mL_2, mR_2, mI_2]
  exact ⟨tb_978, tb_470, by decide +kernel, ⟨by decide +kernel, by decide +kernel⟩, by decide, fun h => by cases h⟩
theorem lm_3 : ll_M ll_mN ll_mC ll_mL ll_mR ll_mI 3 := by
  unfold ll_M
  rw [mN_3, mC_3, mL_3, mR_3, mI_3]
  exact ⟨tb_979, tb_470, by decide +kernel, ⟨by decide +kernel, by decide +kernel⟩, by decide, fun h => by cases h⟩
theorem lm_4 : ll_M ll_mN ll_mC ll_mL ll_mR ll_mI 4 := by
  unfold ll_M
  rw [mN_4, mC_4, mL_4, mR_4, mI_4]
  exact ⟨tb_980, tb_470, by decide +kernel, ⟨by decide +kernel, by decide +kernel⟩, by decide, fun h => by cases h⟩
theorem lm_5 : ll_M ll_mN ll_mC ll_mL ll_mR ll_mI 5 := by
  unfold ll_M
  rw [mN_5, mC_5, mL_5, mR_5, mI_5]
  exact ⟨tb_981, tb_470, by decide +kernel, ⟨by decide +kernel, by decide +kernel⟩, by decide, fun h => by cases h⟩
theorem lm_6 : ll_M ll_mN ll_mC ll_mL ll_mR ll_mI 6 := by
  unfold ll_M
  rw [mN_6, mC_6, mL_6, mR_6, mI_6]
  exact ⟨tb_982, tb_470, by decide +kernel, ⟨by decide +kernel, by decide +kernel⟩, by decide, fun h => by cases h⟩
theorem lm_7 : ll_M ll_mN ll_mC ll_mL ll_mR ll_mI 7 := by
  unfold ll_M
  rw [mN_7, mC_7, mL_7, mR_7, mI_7]
  exact ⟨tb_983, tb_470, by decide +kernel, ⟨by decide +kernel, by decide +kernel⟩, by decide, fun h => by cases h⟩
theorem lm_8 : ll_M ll_mN ll_mC ll_mL ll_mR ll_mI 8 := by
  unfold ll_M
  rw [mN_8, mC_8, mL_8, mR_8, mI_8]
  exact ⟨tb_984, tb_156, by decide +kernel, ⟨by decide +kernel, by decide +kernel⟩, by decide, fun _ => rfl⟩
theorem lm_9 : ll_M ll_mN ll_mC ll_mL ll_mR ll_mI 9 := by
  unfold ll_M
  rw [mN_9, mC_9, mL_9, mR_9, mI_9]
  exact ⟨tb_985, tb_156, by decide +kernel, ⟨by decide +kernel, by decide +kernel⟩, by decide, fun h => by cases h⟩
theorem lm_10 : ll_M ll_mN ll_mC ll_mL ll_mR ll_mI 10 := by
  unfold ll_M
  rw [mN_10, mC_10, mL_10, mR_10, mI_10]
  exact ⟨tb_986, tb_156, by decide +kernel, ⟨by decide +kernel, by decide +kernel⟩, by decide, fun h => by cases h⟩
theorem lm_11 : ll_M ll_mN ll_mC ll_mL ll_mR ll_mI 11 := by
  unfold ll_M
  rw [mN_11, mC_11, mL_11, mR_11, mI_11]
  exact ⟨tb_987, tb_156, by decide +kernel, ⟨by decide +kernel, by decide +kernel⟩, by decide, fun h => by cases h⟩
theorem lm_12 : ll_M ll_mN ll_mC ll_mL ll_mR ll_mI 12 := by
  unfold ll_M
  rw [mN_12, mC_12, mL_12, mR_12, mI_12]
  exact ⟨tb_988, tb_156, by decide +kernel, ⟨by decide +kernel, by decide +kernel⟩, by decide, fun h => by cases h⟩
theorem lm_13 : ll_M ll_mN ll_mC ll_mL ll_mR ll_mI 13 := by
  unfold ll_M
  rw [mN_13, mC_13, mL_13, mR_13, mI_13]
  exact ⟨tb_989, tb_156, by decide +kernel, ⟨by decide +kernel, by decide +kernel⟩, by decide, fun h => by cases h⟩
theorem lm_14 : ll_M ll_mN ll_mC ll_mL ll_mR ll_mI 14 := by
  unfold ll_M
  rw [mN_14, mC_14, mL_14, mR_14, mI_14]
  exact ⟨tb_990, tb_156, by decide +kernel, ⟨by decide +kernel, by decide +kernel⟩, by decide, fun h => by cases h⟩
theorem lm_15 : ll_M ll_mN ll_mC ll_mL ll_mR ll_mI 15 := by
  unfold ll_M
  rw [mN_15, mC_15, mL_15, mR_15, mI_15]
  exact ⟨tb_991, tb_156, by decide +kernel, ⟨by decide +kernel, by decide +kernel⟩, by decide, fun h => by cases h⟩
theorem lm_16 : ll_M ll_mN ll_mC ll_mL ll_mR ll_mI 16 := by
  unfold ll_M
  rw [mN_16, mC_16, mL_16, mR_16, mI_16]
  exact ⟨tb_992, tb_156, by decide +kernel, ⟨by decide +kernel, by decide +kernel⟩, by decide, fun h => by cases h⟩
theorem lm_17 : ll_M ll_mN ll_mC ll_mL ll_mR ll_mI 17 := by
  unfold ll_M
  rw [mN_17, mC_17, mL_17, mR_17, mI_17]
  exact ⟨tb_993, tb_156, by decide +kernel, ⟨by decide +kernel, by decide +kernel⟩, by decide, fun h => by cases h⟩
theorem lm_18 : ll_M ll_mN ll_mC ll_mL ll_mR ll_mI 18 := by
  unfold ll_M
  rw [mN_18, mC_18, mL_18, mR_18, mI_18]
  exact ⟨tb_994, tb_156, by decide +kernel, ⟨by decide +kernel, by decide +kernel⟩, by decide, fun h => by cases h⟩
theorem lm_19 : ll_M ll_mN ll_mC ll_mL ll_mR ll_mI 19 := by
  unfold ll_M
  rw [mN_19, mC_19, mL_19, mR_19, mI_19]
  exact ⟨tb_995, tb_156, by decide +kernel, ⟨by decide +kernel, by decide +kernel⟩, by decide, fun h => by cases h⟩
theorem lm_20 : ll_M ll_mN ll_mC ll_mL ll_mR ll_mI 20 := by
  unfold ll_M
  rw [mN_20, mC_20, mL_20, mR_20, mI_20]
  exact ⟨tb_996, tb_156, by decide +kernel, ⟨by decide +kernel, by decide +kernel⟩, by decide, fun h => by cases h⟩
theorem lm_21 : ll_M ll_mN ll_mC ll_mL ll_mR ll_mI 21 := by
  unfold ll_M
  rw [mN_21, mC_21, mL_21, mR_21, mI_21]
  exact ⟨tb_997, tb_447, by decide +kernel, ⟨by decide +kernel, by decide +kernel⟩, by decide, fun _ => rfl⟩
theorem lm_22 : ll_M ll_mN ll_mC ll_mL ll_mR ll_mI 22 := by
  unfold ll_M
  rw [mN_22, mC_22, mL_22, mR_22, mI_22]
  exact ⟨tb_998, tb_447, by decide +kernel, ⟨by decide +kernel, by decide +kernel⟩, by decide, fun h => by cases h⟩
theorem lm_23 : ll_M ll_mN ll_mC ll_mL ll_mR ll_mI 23 := by
  unfold ll_M
  rw [mN_23, mC_23, mL_23, mR_23, mI_23]
  exact ⟨tb_999, tb_447, by decide +kernel, ⟨by decide +kernel, by decide +kernel⟩, by decide, fun h => by cases h⟩
theorem lm_24 : ll_M ll_mN ll_mC ll_mL ll_mR ll_mI 24 := by
  unfold ll_M
  rw [mN_24, mC_24, mL_24, mR_24, mI_24]
  exact ⟨tb_1000, tb_447, by decide +kernel, ⟨by decide +kernel, by decide +kernel⟩, by decide, fun h => by cases h⟩
theorem lm_25 : ll_M ll_mN ll_mC ll_mL ll_mR ll_mI 25 := by
  unfold ll_M
  rw [mN_25, mC_25, mL_25, mR_25, mI_25]
  exact ⟨tb_1001, tb_447, by decide +kernel, ⟨by decide +kernel, by decide +kernel⟩, by decide, fun h => by cases h⟩
theorem lm_26 : ll_M ll_mN ll_mC ll_mL ll_mR ll_mI 26 := by
  unfold ll_M
  rw [mN_26, mC_26, mL_26, mR_26, mI_26]
  exact ⟨tb_1002, tb_447, by decide +kernel, ⟨by decide +kernel, by decide +kernel⟩, by decide, fun h => by cases h⟩
theorem lm_27 : ll_M ll_mN ll_mC ll_mL ll_mR ll_mI 27 := by
  unfold ll_M
  rw [mN_27, mC_27, mL_27, mR_27, mI_27]
  exact ⟨tb_1003, tb_447, by decide +kernel, ⟨by decide +kernel, by decide +kernel⟩, by decide, fun h => by cases h⟩
theorem lm_28 : ll_M ll_mN ll_mC ll_mL ll_mR ll_mI 28 := by
  unfold ll_M
  rw [mN_28, mC_28, mL_28, mR_28, mI_28]
  exact ⟨tb_1004, tb_447, by decide +kernel, ⟨by decide +kernel, by decide +kernel⟩, by decide, fun h => by cases h⟩
theorem lm_29 : ll_M ll_mN ll_mC ll_mL ll_mR ll_mI 29 := by
  unfold ll_M
  rw [mN_29, mC_29, mL_29, mR_29, mI_29]
  exact ⟨tb_1005, tb_482, by decide +kernel, ⟨by decide +kernel, by decide +kernel⟩, by decide, fun _ => rfl⟩
theorem lm_30 : ll_M ll_mN ll_mC ll_mL ll_mR ll_mI 30 := by
  unfold ll_M
  rw [mN_30, mC_30, mL_30, mR_30, mI_30]
  exact ⟨tb_1006, tb_482, by decide +kernel, ⟨by decide +kernel, by decide +kernel⟩, by decide, fun h => by cases h⟩
theorem lm_31 : ll_M ll_mN ll_mC ll_mL ll_mR ll_mI 31 := by
  unfold ll_M
  rw [mN_31, mC_31, mL_31, mR_31, mI_31]
  exact ⟨tb_1007, tb_464, by decide +kernel, ⟨by decide +kernel, by decide +kernel⟩, by decide, fun _ => rfl⟩
theorem lm_32 : ll_M ll_mN ll_mC ll_mL ll_mR ll_mI 32 := by
  unfold ll_M
  rw [mN_32, mC_32, mL_32, mR_32, mI_32]
  exact ⟨tb_1008, tb_464, by decide +kernel, ⟨by decide +kernel, by decide +kernel⟩, by decide, fun h => by cases h⟩
theorem lm_33 : ll_M ll_mN ll_mC ll_mL ll_mR ll_mI 33 := by
  unfold ll_M
  rw [mN_33, mC_33, mL_33, mR_33, mI_33]
  exact ⟨tb_1009, tb_464, by decide +kernel, ⟨by decide +kernel, by decide +kernel⟩, by decide, fun h => by cases h⟩
theorem lm_34 : ll_M ll_mN ll_mC ll_mL ll_mR ll_mI 34 := by
  unfold ll_M
  rw [mN_34, mC_34, mL_34, mR_34, mI_34]
  exact ⟨tb_1010, tb_464, by decide +kernel, ⟨by decide +kernel, by decide +kernel⟩, by decide, fun h => by cases h⟩
theorem lm_35 : ll_M ll_mN ll_mC ll_mL ll_mR ll_mI 35 := by
  unfold ll_M
  rw [mN_35, mC_35, mL_35, mR_35, mI_35]
  exact ⟨tb_1011, tb_464, by decide +kernel, ⟨by decide +kernel, by decide +kernel⟩, by decide, fun h => by cases h⟩
theorem lm_36 : ll_M ll_mN ll_mC ll_mL ll_mR ll_mI 36 := by
  unfold ll_M
  rw [mN_36, mC_36, mL_36, mR_36, mI_36]
  exact ⟨tb_1012, tb_464, by decide +kernel, ⟨by decide +kernel, by decide +kernel⟩, by decide, fun h => by cases h⟩
theorem lm_37 : ll_M ll_mN ll_mC ll_mL ll_mR ll_mI 37 := by
  unfold ll_M
  rw [mN_37, mC_37, mL_37, mR_37, mI_37]
  exact ⟨tb_1013, tb_464, by decide +kernel, ⟨by decide +kernel, by decide +kernel⟩, by decide, fun h => by cases h⟩
theorem lm_38 : ll_M ll_mN ll_mC ll_mL ll_mR ll_mI 38 := by
  unfold ll_M
  rw [mN_38, mC_38, mL_38, mR_38, mI_38]
  exact ⟨tb_1014, tb_149, by decide +kernel, ⟨by decide +kernel, by decide +kernel⟩, by decide, fun _ => rfl⟩
theorem lm_39 : ll_M ll_mN ll_mC ll_mL ll_mR ll_mI 39 := by
  unfold ll_M
  rw [mN_39, mC_39, mL_39, mR_39, mI_39]
  exact ⟨tb_1015, tb_149, by decide +kernel, ⟨by decide +kernel, by decide +kernel⟩, by decide, fun h => by cases h⟩
theorem lm_40 : ll_M ll_mN ll_mC ll_mL ll_mR ll_mI 40 := by
  unfold ll_M
  rw [mN_40, mC_40, mL_40, mR_40, mI_40]
  exact ⟨tb_1016, tb_149, by decide +kernel, ⟨by decide +kernel, by decide +kernel⟩, by decide, fun h => by cases h⟩
theorem lm_41 : ll_M ll_mN ll_mC ll_mL ll_mR ll_mI 41 := by
  unfold ll_M
  rw [mN_41, mC_41, mL_41, mR_41, mI_41]
  exact ⟨tb_1017, tb_149, by decide +kernel, ⟨by decide +kernel, by decide +kernel⟩, by decide, fun h => by cases h⟩
theorem lm_42 : ll_M ll_mN ll_mC ll_mL ll_mR ll_mI 42 := by
  unfold ll_M
  rw [mN_42, mC_42, mL_42, mR_42, mI_42]
  exact ⟨tb_1018, tb_149, by decide +kernel, ⟨by decide +kernel, by decide +kernel⟩, by decide, fun h => by cases h⟩
theorem lm_43 : ll_M ll_mN ll_mC ll_mL ll_mR ll_mI 43 := by
  unfold ll_M
  rw [mN_43, mC_43, mL_43, mR_43, mI_43]
  exact ⟨tb_1019, tb_149, by decide +kernel, ⟨by decide +kernel, by decide +kernel⟩, by decide, fun h => by cases h⟩
theorem lm_44 : ll_M ll_mN ll_mC ll_mL ll_mR ll_mI 44 := by
  unfold ll_M
  rw [mN_44, mC_44, mL_44, mR_44, mI_44]
  exact ⟨tb_1020, tb_149, by decide +kernel, ⟨by decide +kernel, by decide +kernel⟩, by decide, fun h => by cases h⟩
theorem lm_45 : ll_M ll_mN ll_mC ll_mL ll_mR ll_mI 45 := by
  unfold ll_M
  rw [mN_45, mC_45, mL_45, mR_45, mI_45]
  exact ⟨tb_1021, tb_149, by decide +kernel, ⟨by decide +kernel, by decide +kernel⟩, by decide, fun h => by cases h⟩
theorem lm_46 : ll_M ll_mN ll_mC ll_mL ll_mR ll_mI 46 := by
  unfold ll_M
  rw [mN_46, mC_46, mL_46, mR_46, mI_46]
  exact ⟨tb_1022, tb_149, by decide +kernel, ⟨by decide +kernel, by decide +kernel⟩, by decide, fun h => by cases h⟩
theorem lm_47 : ll_M ll_mN ll_mC ll_mL ll_mR ll_mI 47 := by
  unfold ll_M
  rw [mN_47, mC_47, mL_47, mR_47, mI_47]
  exact ⟨tb_1023, tb_149, by decide +kernel, ⟨by decide +kernel, by decide +kernel⟩, by decide, fun h => by cases h⟩
theorem lm_48 : ll_M ll_mN ll_mC ll_mL ll_mR ll_mI 48 := by
  unfold ll_M
  rw [mN_48, mC_48, mL_48, mR_48, mI_48]
  exact ⟨tb_1024, tb_149, by decide +kernel, ⟨by decide +kernel, by decide +kernel⟩, by decide, fun h => by cases h⟩
theorem lm_49 : ll_M ll_mN ll_mC ll_mL ll_mR ll_mI 49 := by
  unfold ll_M
  rw [mN_49, mC_49, mL_49, mR_49, mI_49]
  exact ⟨tb_1025, tb_149, by decide +kernel, ⟨by decide +kernel, by decide +kernel⟩, by decide, fun h => by cases h⟩
theorem lm_50 : ll_M ll_mN ll_mC ll_mL ll_mR ll_mI 50 := by
  unfold ll_M
  rw [mN_50, mC_50, mL_50, mR_50, mI_50]
  exact ⟨tb_1026, tb_149, by decide +kernel, ⟨by decide +kernel, by decide +kernel⟩, by decide, fun h => by cases h⟩
theorem lm_51 : ll_M ll_mN ll_mC ll_mL ll_mR ll_mI 51 := by
  unfold ll_M
  rw [mN_51, mC_51, mL_51, mR_51, mI_51]
  exact ⟨tb_1027, tb_149, by decide +kernel, ⟨by decide +kernel, by decide +kernel⟩, by decide, fun h => by cases h⟩
theorem lm_52 : ll_M ll_mN ll_mC ll_mL ll_mR ll_mI 52 := by
  unfold ll_M
  rw [mN_52, mC_52, mL_52, mR_52, mI_52]
  exact ⟨tb_1028, tb_149, by decide +kernel, ⟨by decide +kernel, by decide +kernel⟩, by decide, fun h => by cases h⟩
theorem lm_53 : ll_M ll_mN ll_mC ll_mL ll_mR ll_mI 53 := by
  unfold ll_M
  rw [mN_53, mC_53, mL_53, mR_53, mI_53]
  exact ⟨tb_1029, tb_149, by decide +kernel, ⟨by decide +kernel, by decide +kernel⟩, by decide, fun h => by cases h⟩
theorem lm_54 : ll_M ll_mN ll_mC ll_mL ll_mR ll_mI 54 := by
  unfold ll_M
  rw [mN_54, mC_54, mL_54, mR_54, mI_54]
  exact ⟨tb_1030, tb_149, by decide +kernel, ⟨by decide +kernel, by decide +kernel⟩, by decide, fun h => by cases h⟩
theorem lm_55 : ll_M ll_mN ll_mC ll_mL ll_mR ll_mI 55 := by
  unfold ll_M
  rw [mN_55, mC_55, mL_55, mR_55, mI_55]
  exact ⟨tb_1031, tb_149, by decide +kernel, ⟨by decide +kernel, by decide +kernel⟩, by decide, fun h => by cases h⟩
theorem lm_56 : ll_M ll_mN ll_mC ll_mL ll_mR ll_mI 56 := by
  unfold ll_M
  rw [mN_56, mC_56, mL_56, mR_56, mI_56]
  exact ⟨tb_1032, tb_149, by decide +kernel, ⟨by decide +kernel, by decide +kernel⟩, by decide, fun h => by cases h⟩
theorem lm_57 : ll_M ll_mN ll_mC ll_mL ll_mR ll_mI 57 := by
  unfold ll_M
  rw [mN_57, mC_57, mL_57, mR_57, mI_57]
  exact ⟨tb_1033, tb_149, by decide +kernel, ⟨by decide +kernel, by decide +kernel⟩, by decide, fun h => by cases h⟩
theorem lm_58 : ll_M ll_mN ll_mC ll_mL ll_mR ll_mI 58 := by
  unfold ll_M
  rw [mN_58, mC_58, mL_58, mR_58, mI_58]
  exact ⟨tb_1034, tb_149, by decide +kernel, ⟨by decide +kernel, by decide +kernel⟩, by decide, fun h => by cases h⟩
theorem lm_59 : ll_M ll_mN ll_mC ll_mL ll_mR ll_mI 59 := by
  unfold ll_M
  rw [mN_59, mC_59, mL_59, mR_59, mI_59]
  exact ⟨tb_1035, tb_453, by decide +kernel, ⟨by decide +kernel, by decide +kernel⟩, by decide, fun _ => rfl⟩
theorem lm_60 : ll_M ll_mN ll_mC ll_mL ll_mR ll_mI 60 := by
  unfold ll_M
  rw [mN_60, mC_60, mL_60, mR_60, mI_60]
  exact ⟨tb_1036, tb_453, by decide +kernel, ⟨by decide +kernel, by decide +kernel⟩, by decide, fun h => by cases h⟩
theorem lm_61 : ll_M ll_mN ll_mC ll_mL ll_mR ll_mI 61 := by
  unfold ll_M
  rw [mN_61, mC_61, mL_61, mR_61, mI_61]
  exact ⟨tb_1037, tb_453, by decide +kernel, ⟨by decide +kernel, by decide +kernel⟩, by decide, fun h => by cases h⟩
theorem lm_62 : ll_M ll_mN ll_mC ll_mL ll_mR ll_mI 62 := by
  unfold ll_M
  rw [mN_62, mC_62, mL_62, mR_62, mI_62]
  exact ⟨tb_1038, tb_453, by decide +kernel, ⟨by decide +kernel, by decide +kernel⟩, by decide, fun h => by cases h⟩
theorem lm_63 : ll_M ll_mN ll_mC ll_mL ll_mR ll_mI 63 := by
  unfold ll_M
  rw [mN_63, mC_63, mL_63, mR_63, mI_63]
  exact ⟨tb_1039, tb_453, by decide +kernel, ⟨by decide +kernel, by decide +kernel⟩, by decide, fun h => by cases h⟩
theorem lm_64 : ll_M ll_mN ll_mC ll_mL ll_mR ll_mI 64 := by
  unfold ll_M
  rw [mN_64, mC_64, mL_64, mR_64, mI_64]
  exact ⟨tb_1040, tb_453, by decide +kernel, ⟨by decide +kernel, by decide +kernel⟩, by decide, fun h => by cases h⟩
theorem lm_65 : ll_M ll_mN ll_mC ll_mL ll_mR ll_mI 65 := by
  unfold ll_M
  rw [mN_65, mC_65, mL_65, mR_65, mI_65]
  exact ⟨tb_1041, tb_453, by decide +kernel, ⟨by decide +kernel, by decide +kernel⟩, by decide, fun h => by cases h⟩
theorem lm_66 : ll_M ll_mN ll_mC ll_mL ll_mR ll_mI 66 := by
  unfold ll_M
  rw [mN_66, mC_66, mL_66, mR_66, mI_66]
  exact ⟨tb_1042, tb_453, by decide +kernel, ⟨by decide +kernel, by decide +kernel⟩, by decide, fun h => by cases h⟩
theorem lm_67 : ll_M ll_mN ll_mC ll_mL ll_mR ll_mI 67 := by
  unfold ll_M
  rw [mN_67, mC_67, mL_67, mR_67, mI_67]
  exact ⟨tb_1043, tb_453, by decide +kernel, ⟨by decide +kernel, by decide +kernel⟩, by decide, fun h => by cases h⟩
theorem lm_68 : ll_M ll_mN ll_mC ll_mL ll_mR ll_mI 68 := by
  unfold ll_M
  rw [mN_68, mC_68, mL_68, mR_68, mI_68]
  exact ⟨tb_1044, tb_453, by decide +kernel, ⟨by decide +kernel, by decide +kernel⟩, by decide, fun h => by cases h⟩
theorem lm_69 : ll_M ll_mN ll_mC ll_mL ll_mR ll_mI 69 := by
  unfold ll_M
  rw [mN_69, mC_69, mL_69, mR_69, mI_69]
  exact ⟨tb_1045, tb_453, by decide +kernel, ⟨by decide +kernel, by decide +kernel⟩, by decide, fun h => by cases h⟩
theorem lm_70 : ll_M ll_mN ll_mC ll_mL ll_mR ll_mI 70 := by
  unfold ll_M
  rw [mN_70, mC_70, mL_70, mR_70, mI_70]
  exact ⟨tb_1046, tb_70, by decide +kernel, ⟨by decide +kernel, by decide +kernel⟩, by decide, fun _ => rfl⟩
theorem lm_71 : ll_M ll_mN ll_mC ll_mL ll_mR ll_mI 71 := by
  unfold ll_M
  rw [mN_71, mC_71, mL_71, mR_71, mI_71]
  exact ⟨tb_1047, tb_70, by decide +kernel, ⟨by decide +kernel, by decide +kernel⟩, by decide, fun h => by cases h⟩
theorem lm_72 : ll_M ll_mN ll_mC ll_mL ll_mR ll_mI 72 := by
  unfold ll_M
  rw [mN_72, mC_72, mL_72, mR_72, mI_72]
  exact ⟨tb_1048, tb_70, by decide +kernel, ⟨by decide +kernel, by decide +kernel⟩, by decide, fun h => by cases h⟩
theorem lm_73 : ll_M ll_mN ll_mC ll_mL ll_mR ll_mI 73 := by
  unfold ll_M
  rw [mN_73, mC_73, mL_73, mR_73, mI_73]
  exact ⟨tb_1049, tb_70, by decide +kernel, ⟨by decide +kernel, by decide +kernel⟩, by decide, fun h => by cases h⟩
theorem lm_74 : ll_M ll_mN ll_mC ll_mL ll_mR ll_mI 74 := by
  unfold ll_M
  rw [mN_74, mC_74, mL_74, mR_74, mI_74]
  exact ⟨tb_1050, tb_70, by decide +kernel, ⟨by decide +kernel, by decide +kernel⟩, by decide, fun h => by cases h⟩
theorem lm_75 : ll_M ll_mN ll_mC ll_mL ll_mR ll_mI 75 := by
  unfold ll_M
  rw [mN_75, mC_75, mL_75, mR_75, mI_75]
  exact ⟨tb_1051, tb_70, by decide +kernel, ⟨by decide +kernel, by decide +kernel⟩, by decide, fun h => by cases h⟩
theorem lm_76 : ll_M ll_mN ll_mC ll_mL ll_mR ll_mI 76 := by
  unfold ll_M
  rw [mN_76, mC_76, mL_76, mR_76, mI_76]
  exact ⟨tb_1052, tb_70, by decide +kernel, ⟨by decide +kernel, by decide +kernel⟩, by decide, fun h => by cases h⟩
theorem lm_77 : ll_M ll_mN ll_mC ll_mL ll_mR ll_mI 77 := by
  unfold ll_M
  rw [mN_77, mC_77, mL_77, mR_77, mI_77]
  exact ⟨tb_1053, tb_70, by decide +kernel, ⟨by decide +kernel, by decide +kernel⟩, by decide, fun h => by cases h⟩
theorem lm_78 : ll_M ll_mN ll_mC ll_mL ll_mR ll_mI 78 := by
  unfold ll_M
  rw [mN_78, mC_78, mL_78, mR_78, mI_78]
  exact ⟨tb_1054, tb_70, by decide +kernel, ⟨by decide +kernel, by decide +kernel⟩, by decide, fun h => by cases h⟩
theorem lm_79 : ll_M ll_mN ll_mC ll_mL ll_mR ll_mI 79 := by
  unfold ll_M
  rw [mN_79, mC_79, mL_79, mR_79, mI_79]
  exact ⟨tb_1055, tb_439, by decide +kernel, ⟨by decide +kernel, by decide +kernel⟩, by decide, fun _ => rfl⟩
theorem lm_80 : ll_M ll_mN ll_mC ll_mL ll_mR ll_mI 80 := by
  unfold ll_M
  rw [mN_80, mC_80, mL_80, mR_80, mI_80]
  exact ⟨tb_1056, tb_439, by decide +kernel, ⟨by decide +kernel, by decide +kernel⟩, by decide, fun h => by cases h⟩
theorem lm_81 : ll_M ll_mN ll_mC ll_mL ll_mR ll_mI 81 := by
  unfold ll_M
  rw [mN_81, mC_81, mL_81, mR_81, mI_81]
  exact ⟨tb_1057, tb_439, by decide +kernel, ⟨by decide +kernel, by decide +kernel⟩, by decide, fun h => by cases h⟩
theorem lm_82 : ll_M ll_mN ll_mC ll_mL ll_mR ll_mI 82 := by
  unfold ll_M
  rw [mN_82, mC_82, mL_82, mR_82, mI_82]
  exact ⟨tb_1058, tb_439, by decide +kernel, ⟨by decide +kernel, by decide +kernel⟩, by decide, fun h => by cases h⟩
theorem lm_83 : ll_M ll_mN ll_mC ll_mL ll_mR ll_mI 83 := by
  unfold ll_M
  rw [mN_83, mC_83, mL_83, mR_83, mI_83]
  exact ⟨tb_1059, tb_439, by decide +kernel, ⟨by decide +kernel, by decide +kernel⟩, by decide, fun h => by cases h⟩
theorem lm_84 : ll_M ll_mN ll_mC ll_mL ll_mR ll_mI 84 := by
  unfold ll_M
  rw [mN_84, mC_84, mL_84, mR_84, mI_84]
  exact ⟨tb_1060, tb_439, by decide +kernel, ⟨by decide +kernel, by decide +kernel⟩, by decide, fun h => by cases h⟩
theorem lm_85 : ll_M ll_mN ll_mC ll_mL ll_mR ll_mI 85 := by
  unfold ll_M
  rw [mN_85, mC_85, mL_85, mR_85, mI_85]
  exact ⟨tb_1061, tb_439, by decide +kernel, ⟨by decide +kernel, by decide +kernel⟩, by decide, fun h => by cases h⟩
theorem lm_86 : ll_M ll_mN ll_mC ll_mL ll_mR ll_mI 86 := by
  unfold ll_M
  rw [mN_86, mC_86, mL_86, mR_86, mI_86]
  exact ⟨tb_1062, tb_439, by decide +kernel, ⟨by decide +kernel, by decide +kernel⟩, by decide, fun h => by cases h⟩
theorem lm_87 : ll_M ll_mN ll_mC ll_mL ll_mR ll_mI 87 := by
  unfold ll_M
  rw [mN_87, mC_87, mL_87, mR_87, mI_87]
  exact ⟨tb_1063, tb_439, by decide +kernel, ⟨by decide +kernel, by decide +kernel⟩, by decide, fun h => by cases h⟩
theorem lm_88 : ll_M ll_mN ll_mC ll_mL ll_mR ll_mI 88 := by
  unfold ll_M
  rw [mN_88, mC_88, mL_88, mR_88, mI_88]
  exact ⟨tb_1064, tb_439, by decide +kernel, ⟨by decide +kernel, by decide +kernel⟩, by decide, fun h => by cases h⟩
theorem lm_89 : ll_M ll_mN ll_mC ll_mL ll_mR ll_mI 89 := by
  unfold ll_M
  rw [mN_89, mC_89, mL_89, mR_89, mI_89]
  exact ⟨tb_1065, tb_439, by decide +kernel, ⟨by decide +kernel, by decide +kernel⟩, by decide, fun h => by cases h⟩
theorem lm_90 : ll_M ll_mN ll_mC ll_mL ll_mR ll_mI 90 := by
  unfold ll_M
  rw [mN_90, mC_90, mL_90, mR_90, mI_90]
  exact ⟨tb_1066, tb_439, by decide +kernel, ⟨by decide +kernel, by decide +kernel⟩, by decide, fun h => by cases h⟩
theorem lm_91 : ll_M ll_mN ll_mC ll_mL ll_mR ll_mI 91 := by
  unfold ll_M
  rw [mN_91, mC_91, mL_91, mR_91, mI_91]
  exact ⟨tb_1067, tb_439, by decide +kernel, ⟨by decide +kernel, by decide +kernel⟩, by decide, fun h => by cases h⟩
theorem lm_92 : ll_M ll_mN ll_mC ll_mL ll_mR ll_mI 92 := by
  unfold ll_M
  rw [mN_92, mC_92, mL_92, mR_92, mI_92]
  exact ⟨tb_1068, tb_439, by decide +kernel, ⟨by decide +kernel, by decide +kernel⟩, by decide, fun h => by cases h⟩
theorem lm_93 : ll_M ll_mN ll_mC ll_mL ll_mR ll_mI 93 := by
  unfold ll_M
  rw [mN_93, mC_93, mL_93, mR_93, mI_93]
  exact ⟨tb_1069, tb_439, by decide +kernel, ⟨by decide +kernel, by decide +kernel⟩, by decide, fun h => by cases h⟩
theorem lm_94 : ll_M ll_mN ll_mC ll_mL ll_mR ll_mI 94 := by
  unfold ll_M
  rw [mN_94, mC_94, mL_94, mR_94, mI_94]
  exact ⟨tb_1070, tb_439, by decide +kernel, ⟨by decide +kernel, by decide +kernel⟩, by decide, fun h => by cases h⟩
theorem lm_95 : ll_M ll_mN ll_mC ll_mL ll_mR ll_mI 95 := by
  unfold ll_M
  rw [mN_95, mC_95, mL_95, mR_95, mI_95]
  exact ⟨tb_1071, tb_439, by decide +kernel, ⟨by decide +kernel, by decide +kernel⟩, by decide, fun h => by cases h⟩
theorem lm_96 : ll_M ll_mN ll_mC ll_mL ll_mR ll_mI 96 := by
  unfold ll_M
  rw [mN_96, mC_96, mL_96, mR_96, mI_96]
  exact ⟨tb_1072, tb_439, by decide +kernel, ⟨by decide +kernel, by decide +kernel⟩, by decide, fun h => by cases h⟩
theorem lm_97 : ll_M ll_mN ll_mC ll_mL ll_mR ll_mI 97 := by
  unfold ll_M
  rw [mN_97, mC_97, mL_97, mR_97, mI_97]
  exact ⟨tb_1073, tb_439, by decide +kernel, ⟨by decide +kernel, by decide +kernel⟩, by decide, fun h => by cases h⟩
theorem lm_98 : ll_M ll_mN ll_mC ll_mL ll_mR ll_mI 98 := by
  unfold ll_M
  rw [mN_98, mC_98, mL_98, mR_98, mI_98]
  exact ⟨tb_1074, tb_439, by decide +kernel, ⟨by decide +kernel, by decide +kernel⟩, by decide, fun h => by cases h⟩
theorem lm_99 : ll_M ll_mN ll_mC ll_mL ll_mR ll_mI 99 := by
  unfold ll_M
  rw [mN_99, mC_99, mL_99, mR_99, mI_99]
  exact ⟨tb_1075, tb_439, by decide +kernel, ⟨by decide +kernel, by decide +kernel⟩, by decide, fun h => by cases h⟩
theorem lm_100 : ll_M ll_mN ll_mC ll_mL ll_mR ll_mI 100 := by
  unfold ll_M
  rw [mN_100, mC_100, mL_100, mR_100, mI_100]
  exact ⟨tb_1076, tb_439, by decide +kernel, ⟨by decide +kernel, by decide +kernel⟩, by decide, fun h => by cases h⟩
theorem lm_101 : ll_M ll_mN ll_mC ll_mL ll_mR ll_mI 101 := by
  unfold ll_M
  rw [mN_101, mC_101, mL_101, mR_101, mI_101]
  exact ⟨tb_1077, tb_439, by decide +kernel, ⟨by decide +kernel, by decide +kernel⟩, by decide, fun h => by cases h⟩
theorem lm_102 : ll_M ll_mN ll_mC ll_mL ll_mR ll_mI 102 := by
  unfold ll_M
  rw [mN_102, mC_102, mL_102, mR_102, mI_102]
  exact ⟨tb_1078, tb_476, by decide +kernel, ⟨by decide +kernel, by decide +kernel⟩, by decide, fun _ => rfl⟩
theorem lm_103 : ll_M ll_mN ll_mC ll_mL ll_mR ll_mI 103 := by
  unfold ll_M
  rw [mN_103, mC_103, mL_103, mR_103, mI_103]
  exact ⟨tb_1079, tb_476, by decide +kernel, ⟨by decide +kernel, by decide +kernel⟩, by decide, fun h => by cases h⟩
theorem lm_104 : ll_M ll_mN ll_mC ll_mL ll_mR ll_mI 104 := by
  unfold ll_M
  rw [mN_104, mC_104, mL_104, mR_104, mI_104]
  exact ⟨tb_1080, tb_476, by decide +kernel, ⟨by decide +kernel, by decide +kernel⟩, by decide, fun h => by cases h⟩
theorem lm_105 : ll_M ll_mN ll_mC ll_mL ll_mR ll_mI 105 := by
  unfold ll_M
  rw [mN_105, mC_105, mL_105, mR_105, mI_105]
  exact ⟨tb_1081, tb_476, by decide +kernel, ⟨by decide +kernel, by decide +kernel⟩, by decide, fun h => by cases h⟩
theorem lm_106 : ll_M ll_mN ll_mC ll_mL ll_mR ll_mI 106 := by
  unfold ll_M
  rw [mN_106, mC_106, mL_106, mR_106, mI_106]
  exact ⟨tb_1082, tb_476, by decide +kernel, ⟨by decide +kernel, by decide +kernel⟩, by decide, fun h => by cases h⟩
theorem lm_107 : ll_M ll_mN ll_mC ll_mL ll_mR ll_mI 107 := by
  unfold ll_M
  rw [mN_107, mC_107, mL_107, mR_107, mI_107]
  exact ⟨tb_1083, tb_476, by decide +kernel, ⟨by decide +kernel, by decide +kernel⟩, by decide, fun h => by cases h⟩
theorem lm_108 : ll_M ll_mN ll_mC ll_mL ll_mR ll_mI 108 := by
  unfold ll_M
  rw [mN_108, mC_108, mL_108, mR_108, mI_108]
  exact ⟨tb_1084, tb_476, by decide +kernel, ⟨by decide +kernel, by decide +kernel⟩, by decide, fun h => by cases h⟩
theorem lm_109 : ll_M ll_mN ll_mC ll_mL ll_mR ll_mI 109 := by
  unfold ll_M
  rw [mN_109, mC_109, mL_109, mR_109, mI_109]
  exact ⟨tb_1085, tb_476, by decide +kernel, ⟨by decide +kernel, by decide +kernel⟩, by decide, fun h => by cases h⟩
theorem lm_110 : ll_M ll_mN ll_mC ll_mL ll_mR ll_mI 110 := by
  unfold ll_M
  rw [mN_110, mC_110, mL_110, mR_110, mI_110]
  exact ⟨tb_1086, tb_476, by decide +kernel, ⟨by decide +kernel, by decide +kernel⟩, by decide, fun h => by cases h⟩
theorem lm_111 : ll_M ll_mN ll_mC ll_mL ll_mR ll_mI 111 := by
  unfold ll_M
  rw [mN_111, mC_111, mL_111, mR_111, mI_111]
  exact ⟨tb_1087, tb_476, by decide +kernel, ⟨by decide +kernel, by decide +kernel⟩, by decide, fun h => by cases h⟩
theorem lm_112 : ll_M ll_mN ll_mC ll_mL ll_mR ll_mI 112 := by
  unfold ll_M
  rw [mN_112, mC_112, mL_112, mR_112, mI_112]
  exact ⟨tb_1088, tb_476, by decide +kernel, ⟨by decide +kernel, by decide +kernel⟩, by decide, fun h => by cases h⟩
theorem lm_113 : ll_M ll_mN ll_mC ll_mL ll_mR ll_mI 113 := by
  unfold ll_M
  rw [mN_113, mC_113, mL_113, mR_113, mI_113]
  exact ⟨tb_1089, tb_823, by decide +kernel, ⟨by decide +kernel, by decide +kernel⟩, by decide, fun _ => rfl⟩
theorem lm_114 : ll_M ll_mN ll_mC ll_mL ll_mR ll_mI 114 := by
  unfold ll_M
  rw [mN_114, mC_114, mL_114, mR_114, mI_114]
  exact ⟨tb_1090, tb_823, by decide +kernel, ⟨by decide +kernel, by decide +kernel⟩, by decide, fun h => by cases h⟩
theorem lm_115 : ll_M ll_mN ll_mC ll_mL ll_mR ll_mI 115 := by
  unfold ll_M
  rw [mN_115, mC_115, mL_115, mR_115, mI_115]
  exact ⟨tb_1091, tb_823, by decide +kernel, ⟨by decide +kernel, by decide +kernel⟩, by decide, fun h => by cases h⟩
theorem lm_116 : ll_M ll_mN ll_mC ll_mL ll_mR ll_mI 116 := by
  unfold ll_M
  rw [mN_116, mC_116, mL_116, mR_116, mI_116]
  exact ⟨tb_1092, tb_823, by decide +kernel, ⟨by decide +kernel, by decide +kernel⟩, by decide, fun h => by cases h⟩
theorem lm_117 : ll_M ll_mN ll_mC ll_mL ll_mR ll_mI 117 := by
  unfold ll_M
  rw [mN_117, mC_117, mL_117, mR_117, mI_117]
  exact ⟨tb_1093, tb_823, by decide +kernel, ⟨by decide +kernel, by decide +kernel⟩, by decide, fun h => by cases h⟩
theorem lm_118 : ll_M ll_mN ll_mC ll_mL ll_mR ll_mI 118 := by
  unfold ll_M
  rw [mN_118, mC_118, mL_118, mR_118, mI_118]
  exact ⟨tb_1094, tb_823, by decide +kernel, ⟨by decide +kernel, by decide +kernel⟩, by decide, fun h => by cases h⟩
theorem lm_119 : ll_M ll_mN ll_mC ll_mL ll_mR ll_mI 119 := by
  unfold ll_M
  rw [mN_119, mC_119, mL_119, mR_119, mI_119]
  exact ⟨tb_1095, tb_823, by decide +kernel, ⟨by decide +kernel, by decide +kernel⟩, by decide, fun h => by cases h⟩
theorem lm_120 : ll_M ll_mN ll_mC ll_mL ll_mR ll_mI 120 := by
  unfold ll_M
  rw [mN_120, mC_120, mL_120, mR_120, mI_120]
  exact ⟨tb_1096, tb_823, by decide +kernel, ⟨by decide +kernel, by decide +kernel⟩, by decide, fun h => by cases h⟩
theorem lm_121 : ll_M ll_mN ll_mC ll_mL ll_mR ll_mI 121 := by
  unfold ll_M
  rw [mN_121, mC_121, mL_121, mR_121, mI_121]
  exact ⟨tb_1097, tb_823, by decide +kernel, ⟨by decide +kernel, by decide +kernel⟩, by decide, fun h => by cases h⟩
theorem lm_122 : ll_M ll_mN ll_mC ll_mL ll_mR ll_mI 122 := by
  unfold ll_M
  rw [mN_122, mC_122, mL_122, mR_122, mI_122]
  exact ⟨tb_1098, tb_823, by decide +kernel, ⟨by decide +kernel, by decide +kernel⟩, by decide, fun h => by cases h⟩
theorem lm_123 : ll_M ll_mN ll_mC ll_mL ll_mR ll_mI 123 := by
  unfold ll_M
  rw [mN_123, mC_123, mL_123, mR_123, mI_123]
  exact ⟨tb_1099, tb_823, by decide +kernel, ⟨by decide +kernel, by decide +kernel⟩, by decide, fun h => by cases h⟩
theorem lm_124 : ll_M ll_mN ll_mC ll_mL ll_mR ll_mI 124 := by
  unfold ll_M
  rw [mN_124, mC_124, mL_124, mR_124, mI_124]
  exact ⟨tb_1100, tb_823, by decide +kernel, ⟨by decide +kernel, by decide +kernel⟩, by decide, fun h => by cases h⟩
theorem lm_125 : ll_M ll_mN ll_mC ll_mL ll_mR ll_mI 125 := by
  unfold ll_M
  rw [mN_125, mC_125, mL_125, mR_125, mI_125]
  exact ⟨tb_1101, tb_823, by decide +kernel, ⟨by decide +kernel, by decide +kernel⟩, by decide, fun h => by cases h⟩
theorem lm_126 : ll_M ll_mN ll_mC ll_mL ll_mR ll_mI 126 := by
  unfold ll_M
  rw [mN_126, mC_126, mL_126, mR_126, mI_126]
  exact ⟨tb_1102, tb_823, by decide +kernel, ⟨by decide +kernel, by decide +kernel⟩, by decide, fun h => by cases h⟩
theorem lm_127 : ll_M ll_mN ll_mC ll_mL ll_mR ll_mI 127 := by
  unfold ll_M
  rw [mN_127, mC_127, mL_127, mR_127, mI_127]
  exact ⟨tb_1103, tb_823, by decide +kernel, ⟨by decide +kernel, by decide +kernel⟩, by decide, fun h => by cases h⟩
theorem lm_128 : ll_M ll_mN ll_mC ll_mL ll_mR ll_mI 128 := by
  unfold ll_M
  rw [mN_128, mC_128, mL_128, mR_128, mI_128]
  exact ⟨tb_1104, tb_823, by decide +kernel, ⟨by decide +kernel, by decide +kernel⟩, by decide, fun h => by cases h⟩
theorem lm_129 : ll_M ll_mN ll_mC ll_mL ll_mR ll_mI 129 := by
  unfold ll_M
  rw [mN_129, mC_129, mL_129, mR_129, mI_129]
  exact ⟨tb_1105, tb_823, by decide +kernel, ⟨by decide +kernel, by decide +kernel⟩, by decide, fun h => by cases h⟩
theorem lm_130 : ll_M ll_mN ll_mC ll_mL ll_mR ll_mI 130 := by
  unfold ll_M
  rw [mN_130, mC_130, mL_130, mR_130, mI_130]
  exact ⟨tb_1106, tb_823, by decide +kernel, ⟨by decide +kernel, by decide +kernel⟩, by decide, fun h => by cases h⟩
theorem lm_131 : ll_M ll_mN ll_mC ll_mL ll_mR ll_mI 131 := by
  unfold ll_M
  rw [mN_131, mC_131, mL_131, mR_131, mI_131]
  exact ⟨tb_1107, tb_823, by decide +kernel, ⟨by decide +kernel, by decide +kernel⟩, by decide, fun h => by cases h⟩
theorem lm_132 : ll_M ll_mN ll_mC ll_mL ll_mR ll_mI 132 := by
  unfold ll_M
  rw [mN_132, mC_132, mL_132, mR_132, mI_132]
  exact ⟨tb_1108, tb_823, by decide +kernel, ⟨by decide +kernel, by decide +kernel⟩, by decide, fun h => by cases h⟩
theorem lm_133 : ll_M ll_mN ll_mC ll_mL ll_mR ll_mI 133 := by
  unfold ll_M
  rw [mN_133, mC_133, mL_133, mR_133, mI_133]
  exact ⟨tb_1109, tb_823, by decide +kernel, ⟨by decide +kernel, by decide +kernel⟩, by decide, fun h => by cases h⟩
theorem lm_134 : ll_M ll_mN ll_mC ll_mL ll_mR ll_mI 134 := by
  unfold ll_M
  rw [mN_134, mC_134, mL_134, mR_134, mI_134]
  exact ⟨tb_1110, tb_823, by decide +kernel, ⟨by decide +kernel, by decide +kernel⟩, by decide, fun h => by cases h⟩
theorem lm_135 : ll_M ll_mN ll_mC ll_mL ll_mR ll_mI 135 := by
  unfold ll_M
  rw [mN_135, mC_135, mL_135, mR_135, mI_135]
  exact ⟨tb_1111, tb_823, by decide +kernel, ⟨by decide +kernel, by decide +kernel⟩, by decide, fun h => by cases h⟩
theorem lm_136 : ll_M ll_mN ll_mC ll_mL ll_mR ll_mI 136 := by
  unfold ll_M
  rw [mN_136, mC_136, mL_136, mR_136, mI_136]
  exact ⟨tb_1112, tb_823, by decide +kernel, ⟨by decide +kernel, by decide +kernel⟩, by decide, fun h => by cases h⟩
theorem lm_137 : ll_M ll_mN ll_mC ll_mL ll_mR ll_mI 137 := by
  unfold ll_M
  rw [mN_137, mC_137, mL_137, mR_137, mI_137]
  exact ⟨tb_1113, tb_823, by decide +kernel, ⟨by decide +kernel, by decide +kernel⟩, by decide, fun h => by cases h⟩
theorem lm_138 : ll_M ll_mN ll_mC ll_mL ll_mR ll_mI 138 := by
  unfold ll_M
  rw [mN_138, mC_138, mL_138, mR_138, mI_138]
  exact ⟨tb_1114, tb_823, by decide +kernel, ⟨by decide +kernel, by decide +kernel⟩, by decide, fun h => by cases h⟩
theorem lm_139 : ll_M ll_mN ll_mC ll_mL ll_mR ll_mI 139 := by
  unfold ll_M
  rw [mN_139, mC_139, mL_139, mR_139, mI_139]
  exact ⟨tb_1115, tb_823, by decide +kernel, ⟨by decide +kernel, by decide +kernel⟩, by decide, fun h => by cases h⟩
theorem lm_140 : ll_M ll_mN ll_mC ll_mL ll_mR ll_mI 140 := by
  unfold ll_M
  rw [mN_140, mC_140, mL_140, mR_140, mI_140]
  exact ⟨tb_1116, tb_823, by decide +kernel, ⟨by decide +kernel, by decide +kernel⟩, by decide, fun h => by cases h⟩
theorem lm_141 : ll_M ll_mN ll_mC ll_mL ll_mR ll_mI 141 := by
  unfold ll_M
  rw [mN_141, mC_141, mL_141, mR_141, mI_141]
  exact ⟨tb_1117, tb_823, by decide +kernel, ⟨by decide +kernel, by decide +kernel⟩, by decide, fun h => by cases h⟩
theorem lm_142 : ll_M ll_mN ll_mC ll_mL ll_mR ll_mI 142 := by
  unfold ll_M
  rw [mN_142, mC_142, mL_142, mR_142, mI_142]
  exact ⟨tb_1118, tb_823, by decide +kernel, ⟨by decide +kernel, by decide +kernel⟩, by decide, fun h => by cases h⟩
theorem lm_143 : ll_M ll_mN ll_mC ll_mL ll_mR ll_mI 143 := by
  unfold ll_M
  rw [mN_143, mC_143, mL_143, mR_143, mI_143]
  exact ⟨tb_1119, tb_823, by decide +kernel, ⟨by decide +kernel, by decide +kernel⟩, by decide, fun h => by cases h⟩
theorem lm_144 : ll_M ll_mN ll_mC ll_mL ll_mR ll_mI 144 := by
  unfold ll_M
  rw [mN_144, mC_144, mL_144, mR_144, mI_144]
  exact ⟨tb_1120, tb_823, by decide +kernel, ⟨by decide +kernel, by decide +kernel⟩, by decide, fun h => by cases h⟩
theorem lm_145 : ll_M ll_mN ll_mC ll_mL ll_mR ll_mI 145 := by
  unfold ll_M
  rw [mN_145, mC_145, mL_145, mR_145, mI_145]
  exact ⟨tb_1121, tb_823, by decide +kernel, ⟨by decide +kernel, by decide +kernel⟩, by decide, fun h => by cases h⟩
theorem lm_146 : ll_M ll_mN ll_mC ll_mL ll_mR ll_mI 146 := by
  unfold ll_M
  rw [mN_146, mC_146, mL_146, mR_146, mI_146]
  exact ⟨tb_1122, tb_823, by decide +kernel, ⟨by decide +kernel, by decide +kernel⟩, by decide, fun h => by cases h⟩
theorem lm_147 : ll_M ll_mN ll_mC ll_mL ll_mR ll_mI 147 := by
  unfold ll_M
  rw [mN_147, mC_147, mL_147, mR_147, mI_147]
  exact ⟨tb_1123, tb_823, by decide +kernel, ⟨by decide +kernel, by decide +kernel⟩, by decide, fun h => by cases h⟩
theorem lm_148 : ll_M ll_mN ll_mC ll_mL ll_mR ll_mI 148 := by
  unfold ll_M
  rw [mN_148, mC_148, mL_148, mR_148, mI_148]
  exact ⟨tb_1124, tb_823, by decide +kernel, ⟨by decide +kernel, by decide +kernel⟩, by decide, fun h => by cases h⟩
theorem lm_149 : ll_M ll_mN ll_mC ll_mL ll_mR ll_mI 149 := by
  unfold ll_M
  rw [mN_149, mC_149, mL_149, mR_149, mI_149]
  exact ⟨tb_1125, tb_828, by decide +kernel, ⟨by decide +kernel, by decide +kernel⟩, by decide, fun _ => rfl⟩
theorem lm_150 : ll_M ll_mN ll_mC ll_mL ll_mR ll_mI 150 := by
  unfold ll_M
  rw [mN_150, mC_150, mL_150, mR_150, mI_150]
  exact ⟨tb_1126, tb_828, by decide +kernel, ⟨by decide +kernel, by decide +kernel⟩, by decide, fun h => by cases h⟩
theorem lm_151 : ll_M ll_mN ll_mC ll_mL ll_mR ll_mI 151 := by
  unfold ll_M
  rw [mN_151, mC_151, mL_151, mR_151, mI_151]
  exact ⟨tb_1127, tb_828, by decide +kernel, ⟨by decide +kernel, by decide +kernel⟩, by decide, fun h => by cases h⟩
theorem lm_152 : ll_M ll_mN ll_mC ll_mL ll_mR ll_mI 152 := by
  unfold ll_M
  rw [mN_152, mC_152, mL_152, mR_152, mI_152]
  exact ⟨tb_1128, tb_828, by decide +kernel, ⟨by decide +kernel, by decide +kernel⟩, by decide, fun h => by cases h⟩
theorem lm_153 : ll_M ll_mN ll_mC ll_mL ll_mR ll_mI 153 := by
  unfold ll_M
  rw [mN_153, mC_153, mL_153, mR_153, mI_153]
  exact ⟨tb_1129, tb_828, by decide +kernel, ⟨by decide +kernel, by decide +kernel⟩, by decide, fun h => by cases h⟩
theorem lm_154 : ll_M ll_mN ll_mC ll_mL ll_mR ll_mI 154 := by
  unfold ll_M
  rw [mN_154, mC_154, mL_154, mR_154, mI_154]
  exact ⟨tb_1130, tb_828, by decide +kernel, ⟨by decide +kernel, by decide +kernel⟩, by decide, fun h => by cases h⟩
theorem lm_155 : ll_M ll_mN ll_mC ll_mL ll_mR ll_mI 155 := by
  unfold ll_M
  rw [mN_155, mC_155, mL_155, mR_155, mI_155]
  exact ⟨tb_1131, tb_828, by decide +kernel, ⟨by decide +kernel, by decide +kernel⟩, by decide, fun h => by cases h⟩
theorem lm_156 : ll_M ll_mN ll_mC ll_mL ll_mR ll_mI 156 := by
  unfold ll_M
  rw [mN_156, mC_156, mL_156, mR_156, mI_156]
  exact ⟨tb_1132, tb_828, by decide +kernel, ⟨by decide +kernel, by decide +kernel⟩, by decide, fun h => by cases h⟩
theorem lm_157 : ll_M ll_mN ll_mC ll_mL ll_mR ll_mI 157 := by
  unfold ll_M
  rw [mN_157, mC_157, mL_157, mR_157, mI_157]
  exact ⟨tb_1133, tb_828, by decide +kernel, ⟨by decide +kernel, by decide +kernel⟩, by decide, fun h => by cases h⟩
theorem lm_158 : ll_M ll_mN ll_mC ll_mL ll_mR ll_mI 158 := by
  unfold ll_M
  rw [mN_158, mC_158, mL_158, mR_158, mI_158]
  exact ⟨tb_1134, tb_828, by decide +kernel, ⟨by decide +kernel, by decide +kernel⟩, by decide, fun h => by cases h⟩
theorem lm_159 : ll_M ll_mN ll_mC ll_mL ll_mR ll_mI 159 := by
  unfold ll_M
  rw [mN_159, mC_159, mL_159, mR_159, mI_159]
  exact ⟨tb_1135, tb_828, by decide +kernel, ⟨by decide +kernel, by decide +kernel⟩, by decide, fun h => by cases h⟩
theorem lm_160 : ll_M ll_mN ll_mC ll_mL ll_mR ll_mI 160 := by
  unfold ll_M
  rw [mN_160, mC_160, mL_160, mR_160, mI_160]
  exact ⟨tb_1136, tb_828, by decide +kernel, ⟨by decide +kernel, by decide +kernel⟩, by decide, fun h => by cases h⟩
theorem lm_161 : ll_M ll_mN ll_mC ll_mL ll_mR ll_mI 161 := by
  unfold ll_M
  rw [mN_161, mC_161, mL_161, mR_161, mI_161]
  exact ⟨tb_1137, tb_828, by decide +kernel, ⟨by decide +kernel, by decide +kernel⟩, by decide, fun h => by cases h⟩
theorem lm_162 : ll_M ll_mN ll_mC ll_mL ll_mR ll_mI 162 := by
  unfold ll_M
  rw [mN_162, mC_162, mL_162, mR_162, mI_162]
  exact ⟨tb_1138, tb_828, by decide +kernel, ⟨by decide +kernel, by decide +kernel⟩, by decide, fun h => by cases h⟩
theorem lm_163 : ll_M ll_mN ll_mC ll_mL ll_mR ll_mI 163 := by
  unfold ll_M
  rw [mN_163, mC_163, mL_163, mR_163, mI_163]
  exact ⟨tb_1139, tb_828, by decide +kernel, ⟨by decide +kernel, by decide +kernel⟩, by decide, fun h => by cases h⟩
theorem lm_164 : ll_M ll_mN ll_mC ll_mL ll_mR ll_mI 164 := by
  unfold ll_M
  rw [mN_164, mC_164, mL_164, mR_164, mI_164]
  exact ⟨tb_1140, tb_828, by decide +kernel, ⟨by decide +kernel, by decide +kernel⟩, by decide, fun h => by cases h⟩
theorem lm_165 : ll_M ll_mN ll_mC ll_mL ll_mR ll_mI 165 := by
  unfold ll_M
  rw [mN_165, mC_165, mL_165, mR_165, mI_165]
  exact ⟨tb_1141, tb_828, by decide +kernel, ⟨by decide +kernel, by decide +kernel⟩, by decide, fun h => by cases h⟩
theorem lm_166 : ll_M ll_mN ll_mC ll_mL ll_mR ll_mI 166 := by
  unfold ll_M
  rw [mN_166, mC_166, mL_166, mR_166, mI_166]
  exact ⟨tb_1142, tb_828, by decide +kernel, ⟨by decide +kernel, by decide +kernel⟩, by decide, fun h => by cases h⟩
theorem lm_167 : ll_M ll_mN ll_mC ll_mL ll_mR ll_mI 167 := by
  unfold ll_M
  rw [mN_167, mC_167, mL_167, mR_167, mI_167]
  exact ⟨tb_1143, tb_828, by decide +kernel, ⟨by decide +kernel, by decide +kernel⟩, by decide, fun h => by cases h⟩
theorem lm_168 : ll_M ll_mN ll_mC ll_mL ll_mR ll_mI 168 := by
  unfold ll_M
  rw [mN_168, mC_168, mL_168, mR_168, mI_168]
  exact ⟨tb_1144, tb_828, by decide +kernel, ⟨by decide +kernel, by decide +kernel⟩, by decide, fun h => by cases h⟩
theorem lm_169 : ll_M ll_mN ll_mC ll_mL ll_mR ll_mI 169 := by
  unfold ll_M
  rw [mN_169, mC_169, mL_169, mR_169, mI_169]
  exact ⟨tb_1145, tb_828, by decide +kernel, ⟨by decide +kernel, by decide +kernel⟩, by decide, fun h => by cases h⟩
theorem lm_170 : ll_M ll_mN ll_mC ll_mL ll_mR ll_mI 170 := by
  unfold ll_M
  rw [mN_170, mC_170, mL_170, mR_170, mI_170]
  exact ⟨tb_1146, tb_828, by decide +kernel, ⟨by decide +kernel, by decide +kernel⟩, by decide, fun h => by cases h⟩
theorem lm_171 : ll_M ll_mN ll_mC ll_mL ll_mR ll_mI 171 := by
  unfold ll_M
  rw [mN_171, mC_171, mL_171, mR_171, mI_171]
  exact ⟨tb_1147, tb_828, by decide +kernel, ⟨by decide +kernel, by decide +kernel⟩, by decide, fun h => by cases h⟩
theorem lm_172 : ll_M ll_mN ll_mC ll_mL ll_mR ll_mI 172 := by
  unfold ll_M
  rw [mN_172, mC_172, mL_172, mR_172, mI_172]
  exact ⟨tb_1148, tb_828, by decide +kernel, ⟨by decide +kernel, by decide +kernel⟩, by decide, fun h => by cases h⟩
theorem lm_173 : ll_M ll_mN ll_mC ll_mL ll_mR ll_mI 173 := by
  unfold ll_M
  rw [mN_173, mC_173, mL_173, mR_173, mI_173]
  exact ⟨tb_1149, tb_828, by decide +kernel, ⟨by decide +kernel, by decide +kernel⟩, by decide, fun h => by cases h⟩
theorem lm_174 : ll_M ll_mN ll_mC ll_mL ll_mR ll_mI 174 := by
  unfold ll_M
  rw [mN_174, mC_174, mL_174, mR_174, mI_174]
  exact ⟨tb_1150, tb_828, by decide +kernel, ⟨by decide +kernel, by decide +kernel⟩, by decide, fun h => by cases h⟩
theorem lm_175 : ll_M ll_mN ll_mC ll_mL ll_mR ll_mI 175 := by
  unfold ll_M
  rw [mN_175, mC_175, mL_175, mR_175, mI_175]
  exact ⟨tb_1151, tb_828, by decide +kernel, ⟨by decide +kernel, by decide +kernel⟩, by decide, fun h => by cases h⟩
theorem lm_176 : ll_M ll_mN ll_mC ll_mL ll_mR ll_mI 176 := by
  unfold ll_M
  rw [mN_176, mC_176, mL_176, mR_176, mI_176]
  exact ⟨tb_1152, tb_828, by decide +kernel, ⟨by decide +kernel, by decide +kernel⟩, by decide, fun h => by cases h⟩
theorem lm_177 : ll_M ll_mN ll_mC ll_mL ll_mR ll_mI 177 := by
  unfold ll_M
  rw [mN_177, mC_177, mL_177, mR_177, mI_177]
  exact ⟨tb_1153, tb_828, by decide +kernel, ⟨by decide +kernel, by decide +kernel⟩, by decide, fun h => by cases h⟩
theorem lm_178 : ll_M ll_mN ll_mC ll_mL ll_mR ll_mI 178 := by
  unfold ll_M
  rw [mN_178, mC_178, mL_178, mR_178, mI_178]
  exact ⟨tb_1154, tb_828, by decide +kernel, ⟨by decide +kernel, by decide +kernel⟩, by decide, fun h => by cases h⟩
theorem lm_179 : ll_M ll_mN ll_mC ll_mL ll_mR ll_mI 179 := by
  unfold ll_M
  rw [mN_179, mC_179, mL_179, mR_179, mI_179]
  exact ⟨tb_1155, tb_828, by decide +kernel, ⟨by decide +kernel, by decide +kernel⟩, by decide, fun h => by cases h⟩
theorem lm_180 : ll_M ll_mN ll_mC ll_mL ll_mR ll_mI 180 := by
  unfold ll_M
  rw [mN_180, mC_180, mL_180, mR_180, mI_180]
  exact ⟨tb_1156, tb_828, by decide +kernel, ⟨by decide +kernel, by decide +kernel⟩, by decide, fun h => by cases h⟩
theorem lm_181 : ll_M ll_mN ll_mC ll_mL ll_mR ll_mI 181 := by
  unfold ll_M
  rw [mN_181, mC_181, mL_181, mR_181, mI_181]
  exact ⟨tb_1157, tb_828, by decide +kernel, ⟨by decide +kernel, by decide +kernel⟩, by decide, fun h => by cases h⟩
theorem lm_182 : ll_M ll_mN ll_mC ll_mL ll_mR ll_mI 182 := by
  unfold ll_M
  rw [mN_182, mC_182, mL_182, mR_182, mI_182]
  exact ⟨tb_1158, tb_828, by decide +kernel, ⟨by decide +kernel, by decide +kernel⟩, by decide, fun h => by cases h⟩
theorem lm_183 : ll_M ll_mN ll_mC ll_mL ll_mR ll_mI 183 := by
  unfold ll_M
  rw [mN_183, mC_183, mL_183, mR_183, mI_183]
  exact ⟨tb_1159, tb_828, by decide +kernel, ⟨by decide +kernel, by decide +kernel⟩, by decide, fun h => by cases h⟩
theorem lm_184 : ll_M ll_mN ll_mC ll_mL ll_mR ll_mI 184 := by
  unfold ll_M
  rw [mN_184, mC_184, mL_184, mR_184, mI_184]
  exact ⟨tb_1160, tb_828, by decide +kernel, ⟨by decide +kernel, by decide +kernel⟩, by decide, fun h => by cases h⟩
theorem lm_185 : ll_M ll_mN ll_mC ll_mL ll_mR ll_mI 185 := by
  unfold ll_M
  rw [mN_185, mC_185, mL_185, mR_185, mI_185]
  exact ⟨tb_1161, tb_828, by decide +kernel, ⟨by decide +kernel, by decide +kernel⟩, by decide, fun h => by cases h⟩
theorem lm_186 : ll_M ll_mN ll_mC ll_mL ll_mR ll_mI 186 := by
  unfold ll_M
  rw [mN_186, mC_186, mL_186, mR_186, mI_186]
  exact ⟨tb_1162, tb_828, by decide +kernel, ⟨by decide +kernel, by decide +kernel⟩, by decide, fun h => by cases h⟩
theorem lm_187 : ll_M ll_mN ll_mC ll_mL ll_mR ll_mI 187 := by
  unfold ll_M
  rw [mN_187, mC_187, mL_187, mR_187, mI_187]
  exact ⟨tb_1163, tb_828, by decide +kernel, ⟨by decide +kernel, by decide +kernel⟩, by decide, fun h => by cases h⟩
theorem lm_188 : ll_M ll_mN ll_mC ll_mL ll_mR ll_mI 188 := by
  unfold ll_M
  rw [mN_188, mC_188, mL_188, mR_188, mI_188]
  exact ⟨tb_1164, tb_828, by decide +kernel, ⟨by decide +kernel, by decide +kernel⟩, by decide, fun h => by cases h⟩
theorem lm_189 : ll_M ll_mN ll_mC ll_mL ll_mR ll_mI 189 := by
  unfold ll_M
  rw [mN_189, mC_189, mL_189, mR_189, mI_189]
  exact ⟨tb_1165, tb_828, by decide +kernel, ⟨by decide +kernel, by decide +kernel⟩, by decide, fun h => by cases h⟩
theorem lm_190 : ll_M ll_mN ll_mC ll_mL ll_mR ll_mI 190 := by
  unfold ll_M
  rw [mN_190, mC_190, mL_190, mR_190, mI_190]
  exact ⟨tb_1166, tb_828, by decide +kernel, ⟨by decide +kernel, by decide +kernel⟩, by decide, fun h => by cases h⟩
theorem lm_191 : ll_M ll_mN ll_mC ll_mL ll_mR ll_mI 191 := by
  unfold ll_M
  rw [mN_191, mC_191, mL_191, mR_191, mI_191]
  exact ⟨tb_1167, tb_828, by decide +kernel, ⟨by decide +kernel, by decide +kernel⟩, by decide, fun h => by cases h⟩
theorem lm_192 : ll_M ll_mN ll_mC ll_mL ll_mR ll_mI 192 := by
  unfold ll_M
  rw [mN_192, mC_192, mL_192, mR_192, mI_192]
  exact ⟨tb_1168, tb_828, by decide +kernel, ⟨by decide +kernel, by decide +kernel⟩, by decide, fun h => by cases h⟩
theorem lm_193 : ll_M ll_mN ll_mC ll_mL ll_mR ll_mI 193 := by
  unfold ll_M
  rw [mN_193, mC_193, mL_193, mR_193, mI_193]
  exact ⟨tb_1169, tb_828, by decide +kernel, ⟨by decide +kernel, by decide +kernel⟩, by decide, fun h => by cases h⟩
theorem lm_194 : ll_M ll_mN ll_mC ll_mL ll_mR ll_mI 194 := by
  unfold ll_M
  rw [mN_194, mC_194, mL_194, mR_194, mI_194]
  exact ⟨tb_1170, tb_828, by decide +kernel, ⟨by decide +kernel, by decide +kernel⟩, by decide, fun h => by cases h⟩
theorem lm_195 : ll_M ll_mN ll_mC ll_mL ll_mR ll_mI 195 := by
  unfold ll_M
  rw [mN_195, mC_195, mL_195, mR_195, mI_195]
  exact ⟨tb_1171, tb_828, by decide +kernel, ⟨by decide +kernel, by decide +kernel⟩, by decide, fun h => by cases h⟩
theorem lm_196 : ll_M ll_mN ll_mC ll_mL ll_mR ll_mI 196 := by
  unfold ll_M
  rw [mN_196, mC_196, mL_196, mR_196, mI_196]
  exact ⟨tb_1172, tb_828, by decide +kernel, ⟨by decide +kernel, by decide +kernel⟩, by decide, fun h => by cases h⟩
theorem lm_197 : ll_M ll_mN ll_mC ll_mL ll_mR ll_mI 197 := by
  unfold ll_M
  rw [mN_197, mC_197, mL_197, mR_197, mI_197]
  exact ⟨tb_1173, tb_828, by decide +kernel, ⟨by decide +kernel, by decide +kernel⟩, by decide, fun h => by cases h⟩
theorem lm_198 : ll_M ll_mN ll_mC ll_mL ll_mR ll_mI 198 := by
  unfold ll_M
  rw [mN_198, mC_198, mL_198, mR_198, mI_198]
  exact ⟨tb_1174, tb_828, by decide +kernel, ⟨by decide +kernel, by decide +kernel⟩, by decide, fun h => by cases h⟩
theorem lm_199 : ll_M ll_mN ll_mC ll_mL ll_mR ll_mI 199 := by
  unfold ll_M
  rw [mN_199, mC_199, mL_199, mR_199, mI_199]
  exact ⟨tb_1175, tb_828, by decide +kernel, ⟨by decide +kernel, by decide +kernel⟩, by decide, fun h => by cases h⟩
theorem lm_200 : ll_M ll_mN ll_mC ll_mL ll_mR ll_mI 200 := by
  unfold ll_M
  rw [mN_200, mC_200, mL_200, mR_200, mI_200]
  exact ⟨tb_1176, tb_828, by decide +kernel, ⟨by decide +kernel, by decide +kernel⟩, by decide, fun h => by cases h⟩
theorem lm_201 : ll_M ll_mN ll_mC ll_mL ll_mR ll_mI 201 := by
  unfold ll_M
  rw [mN_201, mC_201, mL_201, mR_201, mI_201]
  exact ⟨tb_1177, tb_828, by decide +kernel, ⟨by decide +kernel, by decide +kernel⟩, by decide, fun h => by cases h⟩
theorem lm_202 : ll_M ll_mN ll_mC ll_mL ll_mR ll_mI 202 := by
  unfold ll_M
  rw [mN_202, mC_202, mL_202, mR_202, mI_202]
  exact ⟨tb_1178, tb_828, by decide +kernel, ⟨by decide +kernel, by decide +kernel⟩, by decide, fun h => by cases h⟩
theorem lm_203 : ll_M ll_mN ll_mC ll_mL ll_mR ll_mI 203 := by
  unfold ll_M
  rw [mN_203, mC_203, mL_203, mR_203, mI_203]
  exact ⟨tb_1179, tb_828, by decide +kernel, ⟨by decide +kernel, by decide +kernel⟩, by decide, fun h => by cases h⟩
theorem lm_204 : ll_M ll_mN ll_mC ll_mL ll_mR ll_mI 204 := by
  unfold ll_M
  rw [mN_204, mC_204, mL_204, mR_204, mI_204]
  exact ⟨tb_1180, tb_828, by decide +kernel, ⟨by decide +kernel, by decide +kernel⟩, by decide, fun h => by cases h⟩
theorem lm_205 : ll_M ll_mN ll_mC ll_mL ll_mR ll_mI 205 := by
  unfold ll_M
  rw [mN_205, mC_205, mL_205, mR_205, mI_205]
  exact ⟨tb_1181, tb_828, by decide +kernel, ⟨by decide +kernel, by decide +kernel⟩, by decide, fun h => by cases h⟩
theorem lm_206 : ll_M ll_mN ll_mC ll_mL ll_mR ll_mI 206 := by
  unfold ll_M
  rw [mN_206, mC_206, mL_206, mR_206, mI_206]
  exact ⟨tb_1182, tb_828, by decide +kernel, ⟨by decide +kernel, by decide +kernel⟩, by decide, fun h => by cases h⟩
theorem lm_207 : ll_M ll_mN ll_mC ll_mL ll_mR ll_mI 207 := by
  unfold ll_M
  rw [mN_207, mC_207, mL_207, mR_207, mI_207]
  exact ⟨tb_1183, tb_828, by decide +kernel, ⟨by decide +kernel, by decide +kernel⟩, by decide, fun h => by cases h⟩
theorem lm_208 : ll_M ll_mN ll_mC ll_mL ll_mR ll_mI 208 := by
  unfold ll_M
  rw [mN_208, mC_208, mL_208, mR_208, mI_208]
  exact ⟨tb_1184, tb_828, by decide +kernel, ⟨by decide +kernel, by decide +kernel⟩, by decide, fun h => by cases h⟩
theorem lm_209 : ll_M ll_mN ll_mC ll_mL ll_mR ll_mI 209 := by
  unfold ll_M
  rw [mN_209, mC_209, mL_209, mR_209, mI_209]
  exact ⟨tb_1185, tb_828, by decide +kernel, ⟨by decide +kernel, by decide +kernel⟩, by decide, fun h => by cases h⟩
theorem lm_210 : ll_M ll_mN ll_mC ll_mL ll_mR ll_mI 210 := by
  unfold ll_M
  rw [mN_210, mC_210, mL_210, mR_210, mI_210]
  exact ⟨tb_1186, tb_828, by decide +kernel, ⟨by decide +kernel, by decide +kernel⟩, by decide, fun h => by cases h⟩
theorem lm_211 : ll_M ll_mN ll_mC ll_mL ll_mR ll_mI 211 := by
  unfold ll_M
  rw [mN_211, mC_211, mL_211, mR_211, mI_211]
  exact ⟨tb_1187, tb_828, by decide +kernel, ⟨by decide +kernel, by decide +kernel⟩, by decide, fun h => by cases h⟩
theorem lm_212 : ll_M ll_mN ll_mC ll_mL ll_mR ll_mI 212 := by
  unfold ll_M
  rw [mN_212, mC_212, mL_212, mR_212, mI_212]
  exact ⟨tb_1188, tb_828, by decide +kernel, ⟨by decide +kernel, by decide +kernel⟩, by decide, fun h => by cases h⟩
theorem lm_213 : ll_M ll_mN ll_mC ll_mL ll_mR ll_mI 213 := by
  unfold ll_M
  rw [mN_213, mC_213, mL_213, mR_213, mI_213]
  exact ⟨tb_1189, tb_828, by decide +kernel, ⟨by decide +kernel, by decide +kernel⟩, by decide, fun h => by cases h⟩
theorem lm_214 : ll_M ll_mN ll_mC ll_mL ll_mR ll_mI 214 := by
  unfold ll_M
  rw [mN_214, mC_214, mL_214, mR_214, mI_214]
  exact ⟨tb_1190, tb_828, by decide +kernel, ⟨by decide +kernel, by decide +kernel⟩, by decide, fun h => by cases h⟩
theorem lm_215 : ll_M ll_mN ll_mC ll_mL ll_mR ll_mI 215 := by
  unfold ll_M
  rw [mN_215, mC_215, mL_215, mR_215, mI_215]
  exact ⟨tb_1191, tb_828, by decide +kernel, ⟨by decide +kernel, by decide +kernel⟩, by decide, fun h => by cases h⟩
theorem lm_216 : ll_M ll_mN ll_mC ll_mL ll_mR ll_mI 216 := by
  unfold ll_M
  rw [mN_216, mC_216, mL_216, mR_216, mI_216]
  exact ⟨tb_1192, tb_828, by decide +kernel, ⟨by decide +kernel, by decide +kernel⟩, by decide, fun h => by cases h⟩
theorem lm_217 : ll_M ll_mN ll_mC ll_mL ll_mR ll_mI 217 := by
  unfold ll_M
  rw [mN_217, mC_217, mL_217, mR_217, mI_217]
  exact ⟨tb_1193, tb_828, by decide +kernel, ⟨by decide +kernel, by decide +kernel⟩, by decide, fun h => by cases h⟩
theorem lm_218 : ll_M ll_mN ll_mC ll_mL ll_mR ll_mI 218 := by
  unfold ll_M
  rw [mN_218, mC_218, mL_218, mR_218, mI_218]
  exact ⟨tb_1194, tb_828, by decide +kernel, ⟨by decide +kernel, by decide +kernel⟩, by decide, fun h => by cases h⟩
theorem lm_219 : ll_M ll_mN ll_mC ll_mL ll_mR ll_mI 219 := by
  unfold ll_M
  rw [mN_219, mC_219, mL_219, mR_219, mI_219]
  exact ⟨tb_1195, tb_828, by decide +kernel, ⟨by decide +kernel, by decide +kernel⟩, by decide, fun h => by cases h⟩
theorem lm_220 : ll_M ll_mN ll_mC ll_mL ll_mR ll_mI 220 := by
  unfold ll_M
  rw [mN_220, mC_220, mL_220, mR_220, mI_220]
  exact ⟨tb_1196, tb_828, by decide +kernel, ⟨by decide +kernel, by decide +kernel⟩, by decide, fun h => by cases h⟩
theorem lm_221 : ll_M ll_mN ll_mC ll_mL ll_mR ll_mI 221 := by
  unfold ll_M
  rw [mN_221, mC_221, mL_221, mR_221, mI_221]
  exact ⟨tb_1197, tb_828, by decide +kernel, ⟨by decide +kernel, by decide +kernel⟩, by decide, fun h => by cases h⟩
theorem lm_222 : ll_M ll_mN ll_mC ll_mL ll_mR ll_mI 222 := by
  unfold ll_M
  rw [mN_222, mC_222, mL_222, mR_222, mI_222]
  exact ⟨tb_1198, tb_828, by decide +kernel, ⟨by decide +kernel, by decide +kernel⟩, by decide, fun h => by cases h⟩
theorem lm_223 : ll_M ll_mN ll_mC ll_mL ll_mR ll_mI 223 := by
  unfold ll_M
  rw [mN_223, mC_223, mL_223, mR_223, mI_223]
  exact ⟨tb_1199, tb_828, by decide +kernel, ⟨by decide +kernel, by decide +kernel⟩, by decide, fun h => by cases h⟩
theorem lm_224 : ll_M ll_mN ll_mC ll_mL ll_mR ll_mI 224 := by
  unfold ll_M
  rw [mN_224, mC_224, mL_224, mR_224, mI_224]
  exact ⟨tb_1200, tb_828, by decide +kernel, ⟨by decide +kernel, by decide +kernel⟩, by decide, fun h => by cases h⟩
theorem lm_225 : ll_M ll_mN ll_mC ll_mL ll_mR ll_mI 225 := by
  unfold ll_M
  rw [mN_225, mC_225, mL_225, mR_225, mI_225]
  exact ⟨tb_1201, tb_828, by decide +kernel, ⟨by decide +kernel, by decide +kernel⟩, by decide, fun h => by cases h⟩
theorem lm_226 : ll_M ll_mN ll_mC ll_mL ll_mR ll_mI 226 := by
  unfold ll_M
  rw [mN_226, mC_226, mL_226, mR_226, mI_226]
  exact ⟨tb_1202, tb_828, by decide +kernel, ⟨by decide +kernel, by decide +kernel⟩, by decide, fun h => by cases h⟩
theorem lm_227 : ll_M ll_mN ll_mC ll_mL ll_mR ll_mI 227 := by
  unfold ll_M
  rw [mN_227, mC_227, mL_227, mR_227, mI_227]
  exact ⟨tb_1203, tb_828, by decide +kernel, ⟨by decide +kernel, by decide +kernel⟩, by decide, fun h => by cases h⟩
theorem lm_228 : ll_M ll_mN ll_mC ll_mL ll_mR ll_mI 228 := by
  unfold ll_M
  rw [mN_228, mC_228, mL_228, mR_228, mI_228]
  exact ⟨tb_1204, tb_828, by decide +kernel, ⟨by decide +kernel, by decide +kernel⟩, by decide, fun h => by cases h⟩
theorem lm_229 : ll_M ll_mN ll_mC ll_mL ll_mR ll_mI 229 := by
  unfold ll_M
  rw [mN_229, mC_229, mL_229, mR_229, mI_229]
  exact ⟨tb_1205, tb_828, by decide +kernel, ⟨by decide +kernel, by decide +kernel⟩, by decide, fun h => by cases h⟩
theorem lm_230 : ll_M ll_mN ll_mC ll_mL ll_mR ll_mI 230 := by
  unfold ll_M
  rw [mN_230, mC_230, mL_230, mR_230, mI_230]
  exact ⟨tb_1206, tb_828, by decide +kernel, ⟨by decide +kernel, by decide +kernel⟩, by decide, fun h => by cases h⟩
theorem lm_231 : ll_M ll_mN ll_mC ll_mL ll_mR ll_mI 231 := by
  unfold ll_M
  rw [mN_231, mC_231, mL_231, mR_231, mI_231]
  exact ⟨tb_1207, tb_1208, by decide +kernel, ⟨by decide +kernel, by decide +kernel⟩, by decide, fun h => by cases h⟩
