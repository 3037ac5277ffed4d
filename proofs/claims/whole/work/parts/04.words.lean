set_option maxRecDepth 20000 in
theorem ksel_X5_listMonomial : jx_mem (Cond.selects RX5 yX5_listMonomial yX5_listMonomial) := jx_mm0 (jx_tp 0 rfl) rfl
set_option maxRecDepth 20000 in
theorem ksel_X3_begin : jx_mem (Cond.selects RX3 yX3_begin yX3_begin) := jx_mm0 (jx_tp 1 rfl) rfl
set_option maxRecDepth 20000 in
theorem ksel_X7_byteAt : jx_mem (Cond.selects RX7 yX7_byteAt yX7_byteAt) := jx_mm0 (jx_tp 2 rfl) rfl
set_option maxRecDepth 20000 in
theorem ksel_X3_readStatement : jx_mem (Cond.selects RX3 yX3_readStatement yX3_readStatement) := jx_mm0 (jx_tp 3 rfl) rfl
set_option maxRecDepth 20000 in
theorem ksel_X3_readJoin : jx_mem (Cond.selects RX3 yX3_readJoin yX3_readJoin) := jx_mm0 (jx_tp 4 rfl) rfl
set_option maxRecDepth 20000 in
theorem ksel_X3_fail : jx_mem (Cond.selects RX3 yX3_fail yX3_fail) := jx_mm0 (jx_tp 5 rfl) rfl
set_option maxRecDepth 20000 in
theorem ksel_X3_takeNumber : jx_mem (Cond.selects RX3 yX3_takeNumber yX3_takeNumber) := jx_mm0 (jx_tp 6 rfl) rfl
set_option maxRecDepth 20000 in
theorem ksel_X5_inheritRules : jx_mem (Cond.selects RX5 yX5_inheritRules yX5_inheritRules) := jx_mm0 (jx_tp 7 rfl) rfl
set_option maxRecDepth 20000 in
theorem ksel_X3_readRuleHead : jx_mem (Cond.selects RX3 yX3_readRuleHead yX3_readRuleHead) := jx_mm0 (jx_tp 8 rfl) rfl
set_option maxRecDepth 20000 in
theorem ksel_X3_readRuleTerms : jx_mem (Cond.selects RX3 yX3_readRuleTerms yX3_readRuleTerms) := jx_mm0 (jx_tp 9 rfl) rfl
set_option maxRecDepth 20000 in
theorem ksel_X3_readTerm : jx_mem (Cond.selects RX3 yX3_readTerm yX3_readTerm) := jx_mm0 (jx_tp 10 rfl) rfl
set_option maxRecDepth 20000 in
theorem ksel_X3_readPoint : jx_mem (Cond.selects RX3 yX3_readPoint yX3_readPoint) := jx_mm0 (jx_tp 11 rfl) rfl
set_option maxRecDepth 20000 in
theorem ksel_X3_readPrime : jx_mem (Cond.selects RX3 yX3_readPrime yX3_readPrime) := jx_mm0 (jx_tp 12 rfl) rfl
set_option maxRecDepth 20000 in
theorem ksel_X3_takeSymbol : jx_mem (Cond.selects RX3 yX3_takeSymbol yX3_takeSymbol) := jx_mm0 (jx_tp 13 rfl) rfl
set_option maxRecDepth 20000 in
theorem ksel_X9_forgetDerived : jx_mem (Cond.selects RX9 yX9_forgetDerived yX9_forgetDerived) := jx_mm0 (jx_tp 14 rfl) rfl
set_option maxRecDepth 20000 in
theorem ksel_X6_fillTable : jx_mem (Cond.selects RX6 yX6_fillTable yX6_fillTable) := jx_mm0 (jx_tp 15 rfl) rfl
set_option maxRecDepth 20000 in
theorem ksel_X6_compareProducts : jx_mem (Cond.selects RX6 yX6_compareProducts yX6_compareProducts) := jx_mm0 (jx_tp 16 rfl) rfl
set_option maxRecDepth 20000 in
theorem ksel_X6_listFormsY : jx_mem (Cond.selects RX6 yX6_listFormsY yX6_listFormsY) := jx_mm0 (jx_tp 17 rfl) rfl
set_option maxRecDepth 20000 in
theorem ksel_X6_addForm : jx_mem (Cond.selects RX6 yX6_addForm yX6_addForm) := jx_mm0 (jx_tp 18 rfl) rfl
set_option maxRecDepth 20000 in
theorem ksel_X8_find : jx_mem (Cond.selects RX8 yX8_find yX8_find) := jx_mm0 (jx_tp 19 rfl) rfl
set_option maxRecDepth 20000 in
theorem ksel_X2_pivotRow : jx_mem (Cond.selects RX2 yX2_pivotRow yX2_pivotRow) := jx_mm0 (jx_tp 20 rfl) rfl
set_option maxRecDepth 20000 in
theorem ksel_X2_swapRows : jx_mem (Cond.selects RX2 yX2_swapRows yX2_swapRows) := jx_mm0 (jx_tp 21 rfl) rfl
set_option maxRecDepth 20000 in
theorem ksel_X2_scaleRow : jx_mem (Cond.selects RX2 yX2_scaleRow yX2_scaleRow) := jx_mm0 (jx_tp 22 rfl) rfl
set_option maxRecDepth 20000 in
theorem ksel_X2_clearColumn : jx_mem (Cond.selects RX2 yX2_clearColumn yX2_clearColumn) := jx_mm0 (jx_tp 23 rfl) rfl
set_option maxRecDepth 20000 in
theorem ksel_X2_subtractRow : jx_mem (Cond.selects RX2 yX2_subtractRow yX2_subtractRow) := jx_mm0 (jx_tp 24 rfl) rfl
set_option maxRecDepth 20000 in
theorem ksel_X6_isRoot : jx_mem (Cond.selects RX6 yX6_isRoot yX6_isRoot) := jx_mm0 (jx_tp 25 rfl) rfl
set_option maxRecDepth 20000 in
theorem ksel_X8_tryPoint : jx_mem (Cond.selects RX8 yX8_tryPoint yX8_tryPoint) := jx_mm0 (jx_tp 26 rfl) rfl
set_option maxRecDepth 20000 in
theorem ksel_X0_fillValues : jx_mem (Cond.selects RX0 yX0_fillValues yX0_fillValues) := jx_mm0 (jx_tp 27 rfl) rfl
set_option maxRecDepth 20000 in
theorem ksel_X5_hasOtherRule : jx_mem (Cond.selects RX5 yX5_hasOtherRule yX5_hasOtherRule) := jx_mm0 (jx_tp 28 rfl) rfl
set_option maxRecDepth 20000 in
theorem ksel_X9_beginChange : jx_mem (Cond.selects RX9 yX9_beginChange yX9_beginChange) := jx_mm0 (jx_tp 30 rfl) rfl
set_option maxRecDepth 20000 in
theorem ksel_X8_fillForm : jx_mem (Cond.selects RX8 yX8_fillForm yX8_fillForm) := jx_mm0 (jx_tp 31 rfl) rfl
set_option maxRecDepth 20000 in
theorem ksel_X8_makeMonomialTables : jx_mem (Cond.selects RX8 yX8_makeMonomialTables yX8_makeMonomialTables) := jx_mm0 (jx_tp 32 rfl) rfl
set_option maxRecDepth 20000 in
theorem ksel_X8_makeMonomialTable : jx_mem (Cond.selects RX8 yX8_makeMonomialTable yX8_makeMonomialTable) := jx_mm0 (jx_tp 33 rfl) rfl
set_option maxRecDepth 20000 in
theorem ksel_X10_begins : jx_mem (Cond.selects RX10 yX10_begins yX10_begins) := jx_mm0 (jx_tp 34 rfl) rfl
set_option maxRecDepth 20000 in
theorem ksel_X10_laysBorder : jx_mem (Cond.selects RX10 yX10_laysBorder yX10_laysBorder) := jx_mm0 (jx_tp 35 rfl) rfl
set_option maxRecDepth 20000 in
theorem ksel_X10_n : jx_mem (Cond.selects RX10 yX10_n yX10_n) := jx_mm0 (jx_tp 36 rfl) rfl
set_option maxRecDepth 20000 in
theorem ksel_X10_addsBorder : jx_mem (Cond.selects RX10 yX10_addsBorder yX10_addsBorder) := jx_mm0 (jx_tp 37 rfl) rfl
set_option maxRecDepth 20000 in
theorem ksel_X10_hasIt : jx_mem (Cond.selects RX10 yX10_hasIt yX10_hasIt) := jx_mm0 (jx_tp 38 rfl) rfl
set_option maxRecDepth 20000 in
theorem ksel_X10_monomialAt : jx_mem (Cond.selects RX10 yX10_monomialAt yX10_monomialAt) := jx_mm0 (jx_tp 39 rfl) rfl
set_option maxRecDepth 20000 in
theorem ksel_X10_borderAt : jx_mem (Cond.selects RX10 yX10_borderAt yX10_borderAt) := jx_mm0 (jx_tp 40 rfl) rfl
set_option maxRecDepth 20000 in
theorem ksel_X10_opensText : jx_mem (Cond.selects RX10 yX10_opensText yX10_opensText) := jx_mm0 (jx_tp 41 rfl) rfl
set_option maxRecDepth 20000 in
theorem ksel_X10_goesOn : jx_mem (Cond.selects RX10 yX10_goesOn yX10_goesOn) := jx_mm0 (jx_tp 42 rfl) rfl
set_option maxRecDepth 20000 in
theorem ksel_X10_see : jx_mem (Cond.selects RX10 yX10_see yX10_see) := jx_mm0 (jx_tp 43 rfl) rfl
set_option maxRecDepth 20000 in
theorem ksel_X10_isSmall : jx_mem (Cond.selects RX10 yX10_isSmall yX10_isSmall) := jx_mm0 (jx_tp 44 rfl) rfl
set_option maxRecDepth 20000 in
theorem ksel_X10_isDigit : jx_mem (Cond.selects RX10 yX10_isDigit yX10_isDigit) := jx_mm0 (jx_tp 45 rfl) rfl
set_option maxRecDepth 20000 in
theorem ksel_X10_signOf : jx_mem (Cond.selects RX10 yX10_signOf yX10_signOf) := jx_mm0 (jx_tp 46 rfl) rfl
set_option maxRecDepth 20000 in
theorem ksel_X10_readStatement : jx_mem (Cond.selects RX10 yX10_readStatement yX10_readStatement) := jx_mm0 (jx_tp 47 rfl) rfl
set_option maxRecDepth 20000 in
theorem ksel_X10_wordHere : jx_mem (Cond.selects RX10 yX10_wordHere yX10_wordHere) := jx_mm0 (jx_tp 48 rfl) rfl
set_option maxRecDepth 20000 in
theorem ksel_X10_must : jx_mem (Cond.selects RX10 yX10_must yX10_must) := jx_mm0 (jx_tp 49 rfl) rfl
set_option maxRecDepth 20000 in
theorem ksel_X10_fails : jx_mem (Cond.selects RX10 yX10_fails yX10_fails) := jx_mm0 (jx_tp 50 rfl) rfl
set_option maxRecDepth 20000 in
theorem ksel_X10_readPrime : jx_mem (Cond.selects RX10 yX10_readPrime yX10_readPrime) := jx_mm0 (jx_tp 51 rfl) rfl
set_option maxRecDepth 20000 in
theorem ksel_X10_looks : jx_mem (Cond.selects RX10 yX10_looks yX10_looks) := jx_mm0 (jx_tp 52 rfl) rfl
set_option maxRecDepth 20000 in
theorem ksel_X10_isPrime : jx_mem (Cond.selects RX10 yX10_isPrime yX10_isPrime) := jx_mm0 (jx_tp 53 rfl) rfl
set_option maxRecDepth 20000 in
theorem ksel_X10_reads : jx_mem (Cond.selects RX10 yX10_reads yX10_reads) := jx_mm0 (jx_tp 54 rfl) rfl
set_option maxRecDepth 20000 in
theorem ksel_X10_readJoin : jx_mem (Cond.selects RX10 yX10_readJoin yX10_readJoin) := jx_mm0 (jx_tp 55 rfl) rfl
set_option maxRecDepth 20000 in
theorem ksel_X10_canJoin : jx_mem (Cond.selects RX10 yX10_canJoin yX10_canJoin) := jx_mm0 (jx_tp 56 rfl) rfl
set_option maxRecDepth 20000 in
theorem ksel_X10_hasDivisors : jx_mem (Cond.selects RX10 yX10_hasDivisors yX10_hasDivisors) := jx_mm0 (jx_tp 57 rfl) rfl
set_option maxRecDepth 20000 in
theorem ksel_X10_joins : jx_mem (Cond.selects RX10 yX10_joins yX10_joins) := jx_mm0 (jx_tp 58 rfl) rfl
set_option maxRecDepth 20000 in
theorem ksel_X10_placed : jx_mem (Cond.selects RX10 yX10_placed yX10_placed) := jx_mm0 (jx_tp 59 rfl) rfl
set_option maxRecDepth 20000 in
theorem ksel_X10_laysAgain : jx_mem (Cond.selects RX10 yX10_laysAgain yX10_laysAgain) := jx_mm0 (jx_tp 60 rfl) rfl
set_option maxRecDepth 20000 in
theorem ksel_X10_ruleBefore : jx_mem (Cond.selects RX10 yX10_ruleBefore yX10_ruleBefore) := jx_mm0 (jx_tp 61 rfl) rfl
set_option maxRecDepth 20000 in
theorem ksel_X10_readRule : jx_mem (Cond.selects RX10 yX10_readRule yX10_readRule) := jx_mm0 (jx_tp 62 rfl) rfl
set_option maxRecDepth 20000 in
theorem ksel_X10_isTermHere : jx_mem (Cond.selects RX10 yX10_isTermHere yX10_isTermHere) := jx_mm0 (jx_tp 63 rfl) rfl
set_option maxRecDepth 20000 in
theorem ksel_X10_readTerm : jx_mem (Cond.selects RX10 yX10_readTerm yX10_readTerm) := jx_mm0 (jx_tp 64 rfl) rfl
set_option maxRecDepth 20000 in
theorem ksel_X10_mod : jx_mem (Cond.selects RX10 yX10_mod yX10_mod) := jx_mm0 (jx_tp 65 rfl) rfl
set_option maxRecDepth 20000 in
theorem ksel_X10_p : jx_mem (Cond.selects RX10 yX10_p yX10_p) := jx_mm0 (jx_tp 66 rfl) rfl
set_option maxRecDepth 20000 in
theorem ksel_X10_hasComma : jx_mem (Cond.selects RX10 yX10_hasComma yX10_hasComma) := jx_mm0 (jx_tp 67 rfl) rfl
set_option maxRecDepth 20000 in
theorem ksel_X10_readPoint : jx_mem (Cond.selects RX10 yX10_readPoint yX10_readPoint) := jx_mm0 (jx_tp 68 rfl) rfl
set_option maxRecDepth 20000 in
theorem ksel_X10_pointAt : jx_mem (Cond.selects RX10 yX10_pointAt yX10_pointAt) := jx_mm0 (jx_tp 69 rfl) rfl
set_option maxRecDepth 20000 in
theorem ksel_X10_putsPoint : jx_mem (Cond.selects RX10 yX10_putsPoint yX10_putsPoint) := jx_mm0 (jx_tp 70 rfl) rfl
set_option maxRecDepth 20000 in
theorem ksel_X10_laysTables : jx_mem (Cond.selects RX10 yX10_laysTables yX10_laysTables) := jx_mm0 (jx_tp 71 rfl) rfl
set_option maxRecDepth 20000 in
theorem ksel_X10_laysTable : jx_mem (Cond.selects RX10 yX10_laysTable yX10_laysTable) := jx_mm0 (jx_tp 72 rfl) rfl
set_option maxRecDepth 20000 in
theorem ksel_X10_laysNormal : jx_mem (Cond.selects RX10 yX10_laysNormal yX10_laysNormal) := jx_mm0 (jx_tp 73 rfl) rfl
set_option maxRecDepth 20000 in
theorem ksel_X10_applies : jx_mem (Cond.selects RX10 yX10_applies yX10_applies) := jx_mm0 (jx_tp 74 rfl) rfl
set_option maxRecDepth 20000 in
theorem ksel_X10_addsColumn : jx_mem (Cond.selects RX10 yX10_addsColumn yX10_addsColumn) := jx_mm0 (jx_tp 75 rfl) rfl
set_option maxRecDepth 20000 in
theorem ksel_X10_filled : jx_mem (Cond.selects RX10 yX10_filled yX10_filled) := jx_mm0 (jx_tp 76 rfl) rfl
set_option maxRecDepth 20000 in
theorem ksel_X10_movable : jx_mem (Cond.selects RX10 yX10_movable yX10_movable) := jx_mm0 (jx_tp 77 rfl) rfl
set_option maxRecDepth 20000 in
theorem ksel_X10_canLeave : jx_mem (Cond.selects RX10 yX10_canLeave yX10_canLeave) := jx_mm0 (jx_tp 78 rfl) rfl
set_option maxRecDepth 20000 in
theorem ksel_X10_keeps : jx_mem (Cond.selects RX10 yX10_keeps yX10_keeps) := jx_mm0 (jx_tp 79 rfl) rfl
set_option maxRecDepth 20000 in
theorem ksel_X10_leaves : jx_mem (Cond.selects RX10 yX10_leaves yX10_leaves) := jx_mm0 (jx_tp 80 rfl) rfl
set_option maxRecDepth 20000 in
theorem ksel_X10_isMonomial : jx_mem (Cond.selects RX10 yX10_isMonomial yX10_isMonomial) := jx_mm0 (jx_tp 81 rfl) rfl
set_option maxRecDepth 20000 in
theorem ksel_X10_isBorder : jx_mem (Cond.selects RX10 yX10_isBorder yX10_isBorder) := jx_mm0 (jx_tp 82 rfl) rfl
set_option maxRecDepth 20000 in
theorem ksel_X10_isNumber : jx_mem (Cond.selects RX10 yX10_isNumber yX10_isNumber) := jx_mm0 (jx_tp 83 rfl) rfl
set_option maxRecDepth 20000 in
theorem ksel_X10_laysPowers : jx_mem (Cond.selects RX10 yX10_laysPowers yX10_laysPowers) := jx_mm0 (jx_tp 84 rfl) rfl
set_option maxRecDepth 20000 in
theorem ksel_X10_valueOf : jx_mem (Cond.selects RX10 yX10_valueOf yX10_valueOf) := jx_mm0 (jx_tp 85 rfl) rfl
set_option maxRecDepth 20000 in
theorem ksel_X10_areFriends : jx_mem (Cond.selects RX10 yX10_areFriends yX10_areFriends) := jx_mm0 (jx_tp 86 rfl) rfl
set_option maxRecDepth 20000 in
theorem ksel_X10_differences : jx_mem (Cond.selects RX10 yX10_differences yX10_differences) := jx_mm0 (jx_tp 87 rfl) rfl
set_option maxRecDepth 20000 in
theorem ksel_X10_multiplies : jx_mem (Cond.selects RX10 yX10_multiplies yX10_multiplies) := jx_mm0 (jx_tp 88 rfl) rfl
set_option maxRecDepth 20000 in
theorem ksel_X10_traceOf : jx_mem (Cond.selects RX10 yX10_traceOf yX10_traceOf) := jx_mm0 (jx_tp 89 rfl) rfl
set_option maxRecDepth 20000 in
theorem ksel_X10_raises : jx_mem (Cond.selects RX10 yX10_raises yX10_raises) := jx_mm0 (jx_tp 90 rfl) rfl
set_option maxRecDepth 20000 in
theorem ksel_X10_laysOne : jx_mem (Cond.selects RX10 yX10_laysOne yX10_laysOne) := jx_mm0 (jx_tp 91 rfl) rfl
set_option maxRecDepth 20000 in
theorem ksel_X10_copiesCells : jx_mem (Cond.selects RX10 yX10_copiesCells yX10_copiesCells) := jx_mm0 (jx_tp 92 rfl) rfl
set_option maxRecDepth 20000 in
theorem ksel_X10_laysTall : jx_mem (Cond.selects RX10 yX10_laysTall yX10_laysTall) := jx_mm0 (jx_tp 93 rfl) rfl
set_option maxRecDepth 20000 in
theorem ksel_X10_reduces : jx_mem (Cond.selects RX10 yX10_reduces yX10_reduces) := jx_mm0 (jx_tp 94 rfl) rfl
set_option maxRecDepth 20000 in
theorem ksel_X10_swapsRows : jx_mem (Cond.selects RX10 yX10_swapsRows yX10_swapsRows) := jx_mm0 (jx_tp 95 rfl) rfl
set_option maxRecDepth 20000 in
theorem ksel_X10_inverse : jx_mem (Cond.selects RX10 yX10_inverse yX10_inverse) := jx_mm0 (jx_tp 96 rfl) rfl
set_option maxRecDepth 20000 in
theorem ksel_X10_lessens : jx_mem (Cond.selects RX10 yX10_lessens yX10_lessens) := jx_mm0 (jx_tp 97 rfl) rfl
set_option maxRecDepth 20000 in
theorem ksel_X10_laysZeros : jx_mem (Cond.selects RX10 yX10_laysZeros yX10_laysZeros) := jx_mm0 (jx_tp 98 rfl) rfl
set_option maxRecDepth 20000 in
theorem ksel_X10_isZero : jx_mem (Cond.selects RX10 yX10_isZero yX10_isZero) := jx_mm0 (jx_tp 99 rfl) rfl
set_option maxRecDepth 20000 in
theorem ksel_X10_distinct : jx_mem (Cond.selects RX10 yX10_distinct yX10_distinct) := jx_mm0 (jx_tp 100 rfl) rfl
set_option maxRecDepth 20000 in
theorem ksel_X10_allTimes : jx_mem (Cond.selects RX10 yX10_allTimes yX10_allTimes) := jx_mm0 (jx_tp 101 rfl) rfl
set_option maxRecDepth 20000 in
theorem ksel_X10_times : jx_mem (Cond.selects RX10 yX10_times yX10_times) := jx_mm0 (jx_tp 102 rfl) rfl
set_option maxRecDepth 20000 in
theorem ksel_X10_isPoint : jx_mem (Cond.selects RX10 yX10_isPoint yX10_isPoint) := jx_mm0 (jx_tp 103 rfl) rfl
set_option maxRecDepth 20000 in
theorem ksel_X10_fits : jx_mem (Cond.selects RX10 yX10_fits yX10_fits) := jx_mm0 (jx_tp 104 rfl) rfl
set_option maxRecDepth 20000 in
theorem ksel_X10_isFresh : jx_mem (Cond.selects RX10 yX10_isFresh yX10_isFresh) := jx_mm0 (jx_tp 105 rfl) rfl
set_option maxRecDepth 20000 in
theorem ksel_X10_valueAt : jx_mem (Cond.selects RX10 yX10_valueAt yX10_valueAt) := jx_mm0 (jx_tp 106 rfl) rfl
set_option maxRecDepth 20000 in
theorem ksel_X10_rankOf : jx_mem (Cond.selects RX10 yX10_rankOf yX10_rankOf) := jx_mm0 (jx_tp 107 rfl) rfl
set_option maxRecDepth 20000 in
theorem ksel_X10_solves : jx_mem (Cond.selects RX10 yX10_solves yX10_solves) := jx_mm0 (jx_tp 108 rfl) rfl
set_option maxRecDepth 20000 in
theorem ksel_X10_hasSameMonomials : jx_mem (Cond.selects RX10 yX10_hasSameMonomials yX10_hasSameMonomials) := jx_mm0 (jx_tp 109 rfl) rfl
set_option maxRecDepth 20000 in
theorem kini_L : jx_mem (Cond.initialized RL) := jx_mm1 (jx_tp 0 rfl) rfl
set_option maxRecDepth 20000 in
theorem kini_X9 : jx_mem (Cond.initialized RX9) := jx_mm1 (jx_tp 1 rfl) rfl
set_option maxRecDepth 20000 in
theorem kini_X5 : jx_mem (Cond.initialized RX5) := jx_mm1 (jx_tp 2 rfl) rfl
set_option maxRecDepth 20000 in
theorem kini_J7 : jx_mem (Cond.initialized RJ7) := jx_mm1 (jx_tp 3 rfl) rfl
set_option maxRecDepth 20000 in
theorem kini_X1 : jx_mem (Cond.initialized RX1) := jx_mm1 (jx_tp 4 rfl) rfl
set_option maxRecDepth 20000 in
theorem kini_X4 : jx_mem (Cond.initialized RX4) := jx_mm1 (jx_tp 5 rfl) rfl
set_option maxRecDepth 20000 in
theorem kini_X6 : jx_mem (Cond.initialized RX6) := jx_mm1 (jx_tp 6 rfl) rfl
set_option maxRecDepth 20000 in
theorem kini_X2 : jx_mem (Cond.initialized RX2) := jx_mm1 (jx_tp 7 rfl) rfl
set_option maxRecDepth 20000 in
theorem kini_X8 : jx_mem (Cond.initialized RX8) := jx_mm1 (jx_tp 8 rfl) rfl
set_option maxRecDepth 20000 in
theorem kini_X0 : jx_mem (Cond.initialized RX0) := jx_mm1 (jx_tp 9 rfl) rfl
set_option maxRecDepth 20000 in
theorem kini_X7 : jx_mem (Cond.initialized RX7) := jx_mm1 (jx_tp 10 rfl) rfl
set_option maxRecDepth 20000 in
theorem kini_X3 : jx_mem (Cond.initialized RX3) := jx_mm1 (jx_tp 11 rfl) rfl
set_option maxRecDepth 20000 in
theorem kini_X10 : jx_mem (Cond.initialized RX10) := jx_mm1 (jx_tp 12 rfl) rfl
set_option maxRecDepth 20000 in
theorem kini_Throwable : jx_mem (Cond.initialized "java/lang/Throwable") := jx_mm1 (jx_tp 13 rfl) rfl
set_option maxRecDepth 20000 in
theorem kini_Exception : jx_mem (Cond.initialized "java/lang/Exception") := jx_mm1 (jx_tp 14 rfl) rfl
set_option maxRecDepth 20000 in
theorem kini_RuntimeException : jx_mem (Cond.initialized "java/lang/RuntimeException") := jx_mm1 (jx_tp 15 rfl) rfl
set_option maxRecDepth 20000 in
theorem kini_IllegalStateException : jx_mem (Cond.initialized "java/lang/IllegalStateException") := jx_mm1 (jx_tp 16 rfl) rfl
set_option maxRecDepth 20000 in
theorem kini_IllegalArgumentException : jx_mem (Cond.initialized "java/lang/IllegalArgumentException") := jx_mm1 (jx_tp 17 rfl) rfl
set_option maxRecDepth 20000 in
theorem kini_J9 : jx_mem (Cond.initialized "java/lang/Math") := jx_mm1 (jx_tp 18 rfl) rfl
set_option maxRecDepth 20000 in
theorem kini_J0 : jx_mem (Cond.initialized RJ0) := jx_mm1 (jx_tp 19 rfl) rfl
set_option maxRecDepth 20000 in
theorem kini_J1 : jx_mem (Cond.initialized RJ1) := jx_mm1 (jx_tp 20 rfl) rfl
set_option maxRecDepth 20000 in
theorem kini_J3 : jx_mem (Cond.initialized RJ3) := jx_mm1 (jx_tp 21 rfl) rfl
set_option maxRecDepth 20000 in
theorem kini_J2 : jx_mem (Cond.initialized RJ2) := jx_mm1 (jx_tp 22 rfl) rfl
set_option maxRecDepth 20000 in
theorem kini_J10 : jx_mem (Cond.initialized "java/lang/System") := jx_mm1 (jx_tp 23 rfl) rfl
set_option maxRecDepth 20000 in
theorem kini_IndexOutOfBoundsException : jx_mem (Cond.initialized "java/lang/IndexOutOfBoundsException") := jx_mm1 (jx_tp 24 rfl) rfl
set_option maxRecDepth 20000 in
theorem kL_8 : jx_mem (Cond.classLink RL 8 RX9) := jx_mm1 (jx_tp 25 rfl) rfl
set_option maxRecDepth 20000 in
theorem kins_X9 : jx_mem (Cond.instantiable RX9 14) := jx_mm1 (jx_tp 26 rfl) rfl
set_option maxRecDepth 20000 in
theorem kL_104 : jx_mem (Cond.methodLink RL 104 yX9_init) := jx_mm1 (jx_tp 27 rfl) rfl
set_option maxRecDepth 20000 in
theorem kim_X9_init : jx_mem (Cond.instanceMethod yX9_init) := jx_mm1 (jx_tp 28 rfl) rfl
set_option maxRecDepth 20000 in
theorem kc_X9_init : jx_mem (Cond.code yX9_init cX9_init 1 none) := jx_mm1 (jx_tp 29 rfl) rfl
set_option maxRecDepth 20000 in
theorem kX9_3 : jx_mem (Cond.methodLink RX9 3 objectInit) := jx_mm1 (jx_tp 30 rfl) rfl
set_option maxRecDepth 20000 in
theorem kim_Oinit : jx_mem (Cond.instanceMethod objectInit) := jx_mm1 (jx_tp 31 rfl) rfl
set_option maxRecDepth 20000 in
theorem kc_Oinit : jx_mem (Cond.code objectInit ⟨#[0xb1]⟩ 1 none) := jx_mm1 (jx_tp 32 rfl) rfl
set_option maxRecDepth 20000 in
theorem kX9_9 : jx_mem (Cond.classLink RX9 9 RX5) := jx_mm1 (jx_tp 33 rfl) rfl
set_option maxRecDepth 20000 in
theorem kins_X5 : jx_mem (Cond.instantiable RX5 12) := jx_mm1 (jx_tp 34 rfl) rfl
set_option maxRecDepth 20000 in
theorem kX9_11 : jx_mem (Cond.methodLink RX9 11 yX5_init) := jx_mm1 (jx_tp 35 rfl) rfl
set_option maxRecDepth 20000 in
theorem kim_X5_init : jx_mem (Cond.instanceMethod yX5_init) := jx_mm1 (jx_tp 36 rfl) rfl
set_option maxRecDepth 20000 in
theorem kc_X5_init : jx_mem (Cond.code yX5_init cX5_init 1 none) := jx_mm1 (jx_tp 37 rfl) rfl
set_option maxRecDepth 20000 in
theorem kX5_3 : jx_mem (Cond.methodLink RX5 3 objectInit) := jx_mm1 (jx_tp 38 rfl) rfl
set_option maxRecDepth 20000 in
theorem kX5_36 : jx_mem (Cond.methodLink RX5 36 yX5_reset) := jx_mm1 (jx_tp 39 rfl) rfl
set_option maxRecDepth 20000 in
theorem kim_X5_reset : jx_mem (Cond.instanceMethod yX5_reset) := jx_mm1 (jx_tp 40 rfl) rfl
set_option maxRecDepth 20000 in
theorem ksel_X5_reset : jx_mem (Cond.selects RX5 yX5_reset yX5_reset) := jx_mm1 (jx_tp 41 rfl) rfl
set_option maxRecDepth 20000 in
theorem kc_X5_reset : jx_mem (Cond.code yX5_reset cX5_reset 1 none) := jx_mm1 (jx_tp 42 rfl) rfl
set_option maxRecDepth 20000 in
theorem kX5_43 : jx_mem (Cond.methodLink RX5 43 yJ7_fill_53178) := jx_mm1 (jx_tp 43 rfl) rfl
set_option maxRecDepth 20000 in
theorem kst_J7_fill_53178 : jx_mem (Cond.static yJ7_fill_53178) := jx_mm1 (jx_tp 44 rfl) rfl
set_option maxRecDepth 20000 in
theorem kc_J7_fill_53178 : jx_mem (Cond.code yJ7_fill_53178 cJ7_fill_53178 4 none) := jx_mm1 (jx_tp 45 rfl) rfl
set_option maxRecDepth 20000 in
theorem kX5_52 : jx_mem (Cond.methodLink RX5 52 yX5_listMonomials) := jx_mm1 (jx_tp 46 rfl) rfl
set_option maxRecDepth 20000 in
theorem kim_X5_listMonomials : jx_mem (Cond.instanceMethod yX5_listMonomials) := jx_mm1 (jx_tp 47 rfl) rfl
set_option maxRecDepth 20000 in
theorem ksel_X5_listMonomials : jx_mem (Cond.selects RX5 yX5_listMonomials yX5_listMonomials) := jx_mm1 (jx_tp 48 rfl) rfl
set_option maxRecDepth 20000 in
theorem kc_X5_listMonomials : jx_mem (Cond.code yX5_listMonomials cX5_listMonomials 3 none) := jx_mm1 (jx_tp 49 rfl) rfl
set_option maxRecDepth 20000 in
theorem kX5_88 : jx_mem (Cond.methodLink RX5 88 yX5_listMonomial) := jx_mm1 (jx_tp 50 rfl) rfl
set_option maxRecDepth 20000 in
theorem kim_X5_listMonomial : jx_mem (Cond.instanceMethod yX5_listMonomial) := jx_mm1 (jx_tp 52 rfl) rfl
set_option maxRecDepth 20000 in
theorem kc_X5_listMonomial : jx_mem (Cond.code yX5_listMonomial cX5_listMonomial 3 none) := jx_mm1 (jx_tp 53 rfl) rfl
set_option maxRecDepth 20000 in
theorem kX5_67 : jx_mem (Cond.methodLink RX5 67 yX5_contains) := jx_mm1 (jx_tp 54 rfl) rfl
set_option maxRecDepth 20000 in
theorem kim_X5_contains : jx_mem (Cond.instanceMethod yX5_contains) := jx_mm1 (jx_tp 55 rfl) rfl
set_option maxRecDepth 20000 in
theorem ksel_X5_contains : jx_mem (Cond.selects RX5 yX5_contains yX5_contains) := jx_mm1 (jx_tp 56 rfl) rfl
set_option maxRecDepth 20000 in
theorem kc_X5_contains : jx_mem (Cond.code yX5_contains cX5_contains 3 (some .boolean)) := jx_mm1 (jx_tp 57 rfl) rfl
set_option maxRecDepth 20000 in
theorem kX5_39 : jx_mem (Cond.fieldLink RX5 39 "BorderBasis$State" "prime" "I") := jx_mm1 (jx_tp 58 rfl) rfl
set_option maxRecDepth 20000 in
theorem kX0_28 : jx_mem (Cond.fieldLink RX0 28 "BorderBasis$State" "prime" "I") := jx_mm1 (jx_tp 59 rfl) rfl
set_option maxRecDepth 20000 in
theorem kX9_132 : jx_mem (Cond.fieldLink RX9 132 "BorderBasis$State" "prime" "I") := jx_mm1 (jx_tp 60 rfl) rfl
set_option maxRecDepth 20000 in
theorem kX8_82 : jx_mem (Cond.fieldLink RX8 82 "BorderBasis$State" "prime" "I") := jx_mm1 (jx_tp 61 rfl) rfl
set_option maxRecDepth 20000 in
theorem kX6_87 : jx_mem (Cond.fieldLink RX6 87 "BorderBasis$State" "prime" "I") := jx_mm1 (jx_tp 62 rfl) rfl
set_option maxRecDepth 20000 in
theorem kX3_127 : jx_mem (Cond.fieldLink RX3 127 "BorderBasis$State" "prime" "I") := jx_mm1 (jx_tp 63 rfl) rfl
set_option maxRecDepth 20000 in
theorem kX5_9 : jx_mem (Cond.fieldLink RX5 9 "BorderBasis$State" "heights" "[I") := jx_mm1 (jx_tp 64 rfl) rfl
set_option maxRecDepth 20000 in
theorem kX0_41 : jx_mem (Cond.fieldLink RX0 41 "BorderBasis$State" "heights" "[I") := jx_mm1 (jx_tp 65 rfl) rfl
set_option maxRecDepth 20000 in
theorem kX5_55 : jx_mem (Cond.fieldLink RX5 55 "BorderBasis$State" "size" "I") := jx_mm1 (jx_tp 66 rfl) rfl
set_option maxRecDepth 20000 in
theorem kX4_35 : jx_mem (Cond.fieldLink RX4 35 "BorderBasis$State" "size" "I") := jx_mm1 (jx_tp 67 rfl) rfl
set_option maxRecDepth 20000 in
theorem kX9_129 : jx_mem (Cond.fieldLink RX9 129 "BorderBasis$State" "size" "I") := jx_mm1 (jx_tp 68 rfl) rfl
set_option maxRecDepth 20000 in
theorem kX6_99 : jx_mem (Cond.fieldLink RX6 99 "BorderBasis$State" "size" "I") := jx_mm1 (jx_tp 69 rfl) rfl
set_option maxRecDepth 20000 in
theorem kX8_110 : jx_mem (Cond.fieldLink RX8 110 "BorderBasis$State" "size" "I") := jx_mm1 (jx_tp 70 rfl) rfl
set_option maxRecDepth 20000 in
theorem kX3_129 : jx_mem (Cond.fieldLink RX3 129 "BorderBasis$State" "size" "I") := jx_mm1 (jx_tp 71 rfl) rfl
set_option maxRecDepth 20000 in
theorem kX5_15 : jx_mem (Cond.fieldLink RX5 15 "BorderBasis$State" "monomialI" "[I") := jx_mm1 (jx_tp 72 rfl) rfl
set_option maxRecDepth 20000 in
theorem kX4_41 : jx_mem (Cond.fieldLink RX4 41 "BorderBasis$State" "monomialI" "[I") := jx_mm1 (jx_tp 73 rfl) rfl
set_option maxRecDepth 20000 in
theorem kX6_105 : jx_mem (Cond.fieldLink RX6 105 "BorderBasis$State" "monomialI" "[I") := jx_mm1 (jx_tp 74 rfl) rfl
set_option maxRecDepth 20000 in
theorem kX8_144 : jx_mem (Cond.fieldLink RX8 144 "BorderBasis$State" "monomialI" "[I") := jx_mm1 (jx_tp 75 rfl) rfl
set_option maxRecDepth 20000 in
theorem kX9_193 : jx_mem (Cond.fieldLink RX9 193 "BorderBasis$State" "monomialI" "[I") := jx_mm1 (jx_tp 76 rfl) rfl
set_option maxRecDepth 20000 in
theorem kX5_18 : jx_mem (Cond.fieldLink RX5 18 "BorderBasis$State" "monomialJ" "[I") := jx_mm1 (jx_tp 77 rfl) rfl
set_option maxRecDepth 20000 in
theorem kX4_44 : jx_mem (Cond.fieldLink RX4 44 "BorderBasis$State" "monomialJ" "[I") := jx_mm1 (jx_tp 78 rfl) rfl
set_option maxRecDepth 20000 in
theorem kX6_108 : jx_mem (Cond.fieldLink RX6 108 "BorderBasis$State" "monomialJ" "[I") := jx_mm1 (jx_tp 79 rfl) rfl
set_option maxRecDepth 20000 in
theorem kX8_147 : jx_mem (Cond.fieldLink RX8 147 "BorderBasis$State" "monomialJ" "[I") := jx_mm1 (jx_tp 80 rfl) rfl
set_option maxRecDepth 20000 in
theorem kX9_196 : jx_mem (Cond.fieldLink RX9 196 "BorderBasis$State" "monomialJ" "[I") := jx_mm1 (jx_tp 81 rfl) rfl
set_option maxRecDepth 20000 in
theorem kX0_63 : jx_mem (Cond.fieldLink RX0 63 "BorderBasis$State" "borderSize" "I") := jx_mm1 (jx_tp 82 rfl) rfl
set_option maxRecDepth 20000 in
theorem kX5_58 : jx_mem (Cond.fieldLink RX5 58 "BorderBasis$State" "borderSize" "I") := jx_mm1 (jx_tp 83 rfl) rfl
set_option maxRecDepth 20000 in
theorem kX4_30 : jx_mem (Cond.fieldLink RX4 30 "BorderBasis$State" "borderSize" "I") := jx_mm1 (jx_tp 84 rfl) rfl
set_option maxRecDepth 20000 in
theorem kX9_155 : jx_mem (Cond.fieldLink RX9 155 "BorderBasis$State" "borderSize" "I") := jx_mm1 (jx_tp 85 rfl) rfl
set_option maxRecDepth 20000 in
theorem kX5_21 : jx_mem (Cond.fieldLink RX5 21 "BorderBasis$State" "borderI" "[I") := jx_mm1 (jx_tp 86 rfl) rfl
set_option maxRecDepth 20000 in
theorem kX0_66 : jx_mem (Cond.fieldLink RX0 66 "BorderBasis$State" "borderI" "[I") := jx_mm1 (jx_tp 87 rfl) rfl
set_option maxRecDepth 20000 in
theorem kX4_50 : jx_mem (Cond.fieldLink RX4 50 "BorderBasis$State" "borderI" "[I") := jx_mm1 (jx_tp 88 rfl) rfl
set_option maxRecDepth 20000 in
theorem kX9_199 : jx_mem (Cond.fieldLink RX9 199 "BorderBasis$State" "borderI" "[I") := jx_mm1 (jx_tp 89 rfl) rfl
set_option maxRecDepth 20000 in
theorem kX5_24 : jx_mem (Cond.fieldLink RX5 24 "BorderBasis$State" "borderJ" "[I") := jx_mm1 (jx_tp 90 rfl) rfl
set_option maxRecDepth 20000 in
theorem kX0_69 : jx_mem (Cond.fieldLink RX0 69 "BorderBasis$State" "borderJ" "[I") := jx_mm1 (jx_tp 91 rfl) rfl
set_option maxRecDepth 20000 in
theorem kX4_53 : jx_mem (Cond.fieldLink RX4 53 "BorderBasis$State" "borderJ" "[I") := jx_mm1 (jx_tp 92 rfl) rfl
set_option maxRecDepth 20000 in
theorem kX9_202 : jx_mem (Cond.fieldLink RX9 202 "BorderBasis$State" "borderJ" "[I") := jx_mm1 (jx_tp 93 rfl) rfl
set_option maxRecDepth 20000 in
theorem kX5_27 : jx_mem (Cond.fieldLink RX5 27 "BorderBasis$State" "rules" "[I") := jx_mm1 (jx_tp 94 rfl) rfl
set_option maxRecDepth 20000 in
theorem kX0_60 : jx_mem (Cond.fieldLink RX0 60 "BorderBasis$State" "rules" "[I") := jx_mm1 (jx_tp 95 rfl) rfl
set_option maxRecDepth 20000 in
theorem kX5_49 : jx_mem (Cond.fieldLink RX5 49 "BorderBasis$State" "pointCount" "I") := jx_mm1 (jx_tp 96 rfl) rfl
set_option maxRecDepth 20000 in
theorem kX0_83 : jx_mem (Cond.fieldLink RX0 83 "BorderBasis$State" "pointCount" "I") := jx_mm1 (jx_tp 97 rfl) rfl
set_option maxRecDepth 20000 in
theorem kX9_162 : jx_mem (Cond.fieldLink RX9 162 "BorderBasis$State" "pointCount" "I") := jx_mm1 (jx_tp 98 rfl) rfl
set_option maxRecDepth 20000 in
theorem kX3_158 : jx_mem (Cond.fieldLink RX3 158 "BorderBasis$State" "pointCount" "I") := jx_mm1 (jx_tp 99 rfl) rfl
set_option maxRecDepth 20000 in
theorem kX5_30 : jx_mem (Cond.fieldLink RX5 30 "BorderBasis$State" "pointA" "[I") := jx_mm1 (jx_tp 100 rfl) rfl
set_option maxRecDepth 20000 in
theorem kX0_89 : jx_mem (Cond.fieldLink RX0 89 "BorderBasis$State" "pointA" "[I") := jx_mm1 (jx_tp 101 rfl) rfl
set_option maxRecDepth 20000 in
theorem kX9_285 : jx_mem (Cond.fieldLink RX9 285 "BorderBasis$State" "pointA" "[I") := jx_mm1 (jx_tp 102 rfl) rfl
set_option maxRecDepth 20000 in
theorem kX5_33 : jx_mem (Cond.fieldLink RX5 33 "BorderBasis$State" "pointB" "[I") := jx_mm1 (jx_tp 103 rfl) rfl
set_option maxRecDepth 20000 in
theorem kX0_92 : jx_mem (Cond.fieldLink RX0 92 "BorderBasis$State" "pointB" "[I") := jx_mm1 (jx_tp 104 rfl) rfl
set_option maxRecDepth 20000 in
theorem kX9_288 : jx_mem (Cond.fieldLink RX9 288 "BorderBasis$State" "pointB" "[I") := jx_mm1 (jx_tp 105 rfl) rfl
set_option maxRecDepth 20000 in
theorem kac_int : jx_mem (Cond.arrayClass .int) := jx_mm1 (jx_tp 131 rfl) rfl
set_option maxRecDepth 20000 in
theorem kX9_26 : jx_mem (Cond.classLink RX9 26 RX1) := jx_mm1 (jx_tp 133 rfl) rfl
set_option maxRecDepth 20000 in
theorem kins_X1 : jx_mem (Cond.instantiable RX1 3) := jx_mm1 (jx_tp 134 rfl) rfl
set_option maxRecDepth 20000 in
theorem kX9_28 : jx_mem (Cond.methodLinkNest RX9 28 yX1_init "BorderBasis") := jx_mm1 (jx_tp 135 rfl) rfl
set_option maxRecDepth 20000 in
theorem kim_X1_init : jx_mem (Cond.instanceMethod yX1_init) := jx_mm1 (jx_tp 136 rfl) rfl
set_option maxRecDepth 20000 in
theorem kc_X1_init : jx_mem (Cond.code yX1_init cX1_init 1 none) := jx_mm1 (jx_tp 137 rfl) rfl
set_option maxRecDepth 20000 in
theorem kX1_3 : jx_mem (Cond.methodLink RX1 3 objectInit) := jx_mm1 (jx_tp 138 rfl) rfl
set_option maxRecDepth 20000 in
theorem kX1_9 : jx_mem (Cond.classLink RX1 9 RX5) := jx_mm1 (jx_tp 139 rfl) rfl
set_option maxRecDepth 20000 in
theorem kX1_11 : jx_mem (Cond.fieldLink RX1 11 "BorderBasis$History" "states" "[LBorderBasis$State;") := jx_mm1 (jx_tp 140 rfl) rfl
set_option maxRecDepth 20000 in
theorem kX1_17 : jx_mem (Cond.fieldLink RX1 17 "BorderBasis$History" "next" "I") := jx_mm1 (jx_tp 141 rfl) rfl
set_option maxRecDepth 20000 in
theorem kX1_26 : jx_mem (Cond.fieldLink RX1 26 "BorderBasis$History" "depth" "I") := jx_mm1 (jx_tp 142 rfl) rfl
set_option maxRecDepth 20000 in
theorem kX9_117 : jx_mem (Cond.fieldLink RX9 117 "BorderBasis$History" "depth" "I") := jx_mm1 (jx_tp 143 rfl) rfl
set_option maxRecDepth 20000 in
theorem kX9_37 : jx_mem (Cond.classLink RX9 37 RX4) := jx_mm1 (jx_tp 151 rfl) rfl
set_option maxRecDepth 20000 in
theorem kins_X4 : jx_mem (Cond.instantiable RX4 3) := jx_mm1 (jx_tp 152 rfl) rfl
set_option maxRecDepth 20000 in
theorem kX9_39 : jx_mem (Cond.methodLinkNest RX9 39 yX4_init "BorderBasis") := jx_mm1 (jx_tp 153 rfl) rfl
set_option maxRecDepth 20000 in
theorem kim_X4_init : jx_mem (Cond.instanceMethod yX4_init) := jx_mm1 (jx_tp 154 rfl) rfl
set_option maxRecDepth 20000 in
theorem kc_X4_init : jx_mem (Cond.code yX4_init cX4_init 1 none) := jx_mm1 (jx_tp 155 rfl) rfl
set_option maxRecDepth 20000 in
theorem kX4_3 : jx_mem (Cond.methodLink RX4 3 objectInit) := jx_mm1 (jx_tp 156 rfl) rfl
set_option maxRecDepth 20000 in
theorem kX4_9 : jx_mem (Cond.fieldLink RX4 9 "BorderBasis$Spot" "powersA" "[I") := jx_mm1 (jx_tp 157 rfl) rfl
set_option maxRecDepth 20000 in
theorem kX4_15 : jx_mem (Cond.fieldLink RX4 15 "BorderBasis$Spot" "powersB" "[I") := jx_mm1 (jx_tp 158 rfl) rfl
set_option maxRecDepth 20000 in
theorem kX4_18 : jx_mem (Cond.fieldLink RX4 18 "BorderBasis$Spot" "prime" "I") := jx_mm1 (jx_tp 159 rfl) rfl
set_option maxRecDepth 20000 in
theorem kX9_44 : jx_mem (Cond.classLink RX9 44 RX6) := jx_mm1 (jx_tp 167 rfl) rfl
set_option maxRecDepth 20000 in
theorem kins_X6 : jx_mem (Cond.instantiable RX6 17) := jx_mm1 (jx_tp 168 rfl) rfl
set_option maxRecDepth 20000 in
theorem kX9_46 : jx_mem (Cond.methodLink RX9 46 yX6_init) := jx_mm1 (jx_tp 169 rfl) rfl
set_option maxRecDepth 20000 in
theorem kim_X6_init : jx_mem (Cond.instanceMethod yX6_init) := jx_mm1 (jx_tp 170 rfl) rfl
set_option maxRecDepth 20000 in
theorem kc_X6_init : jx_mem (Cond.code yX6_init cX6_init 2 none) := jx_mm1 (jx_tp 171 rfl) rfl
set_option maxRecDepth 20000 in
theorem kX6_3 : jx_mem (Cond.methodLink RX6 3 objectInit) := jx_mm1 (jx_tp 172 rfl) rfl
set_option maxRecDepth 20000 in
theorem kX6_9 : jx_mem (Cond.classLink RX6 9 RX2) := jx_mm1 (jx_tp 173 rfl) rfl
set_option maxRecDepth 20000 in
theorem kins_X2 : jx_mem (Cond.instantiable RX2 7) := jx_mm1 (jx_tp 174 rfl) rfl
set_option maxRecDepth 20000 in
theorem kX6_11 : jx_mem (Cond.methodLink RX6 11 yX2_init) := jx_mm1 (jx_tp 175 rfl) rfl
set_option maxRecDepth 20000 in
theorem kim_X2_init : jx_mem (Cond.instanceMethod yX2_init) := jx_mm1 (jx_tp 176 rfl) rfl
set_option maxRecDepth 20000 in
theorem kc_X2_init : jx_mem (Cond.code yX2_init cX2_init 3 none) := jx_mm1 (jx_tp 177 rfl) rfl
set_option maxRecDepth 20000 in
theorem kX2_3 : jx_mem (Cond.methodLink RX2 3 objectInit) := jx_mm1 (jx_tp 178 rfl) rfl
set_option maxRecDepth 20000 in
theorem kX2_9 : jx_mem (Cond.fieldLink RX2 9 "BorderBasis$Matrix" "height" "I") := jx_mm1 (jx_tp 179 rfl) rfl
set_option maxRecDepth 20000 in
theorem kX2_15 : jx_mem (Cond.fieldLink RX2 15 "BorderBasis$Matrix" "width" "I") := jx_mm1 (jx_tp 180 rfl) rfl
set_option maxRecDepth 20000 in
theorem kX2_18 : jx_mem (Cond.fieldLink RX2 18 "BorderBasis$Matrix" "cells" "[I") := jx_mm1 (jx_tp 181 rfl) rfl
set_option maxRecDepth 20000 in
theorem kX2_22 : jx_mem (Cond.fieldLink RX2 22 "BorderBasis$Matrix" "pivots" "[I") := jx_mm1 (jx_tp 182 rfl) rfl
set_option maxRecDepth 20000 in
theorem kX0_51 : jx_mem (Cond.fieldLink RX0 51 "BorderBasis$Matrix" "pivots" "[I") := jx_mm1 (jx_tp 183 rfl) rfl
set_option maxRecDepth 20000 in
theorem kX2_31 : jx_mem (Cond.fieldLink RX2 31 "BorderBasis$Matrix" "rows" "I") := jx_mm1 (jx_tp 184 rfl) rfl
set_option maxRecDepth 20000 in
theorem kX2_34 : jx_mem (Cond.fieldLink RX2 34 "BorderBasis$Matrix" "columns" "I") := jx_mm1 (jx_tp 185 rfl) rfl
set_option maxRecDepth 20000 in
theorem kX2_79 : jx_mem (Cond.fieldLink RX2 79 "BorderBasis$Matrix" "determinant" "I") := jx_mm1 (jx_tp 186 rfl) rfl
set_option maxRecDepth 20000 in
theorem kX6_167 : jx_mem (Cond.fieldLink RX6 167 "BorderBasis$Matrix" "determinant" "I") := jx_mm1 (jx_tp 187 rfl) rfl
set_option maxRecDepth 20000 in
theorem kX6_54 : jx_mem (Cond.fieldLink RX6 54 "BorderBasis$Tables" "state" "LBorderBasis$State;") := jx_mm1 (jx_tp 203 rfl) rfl
set_option maxRecDepth 20000 in
theorem kX6_14 : jx_mem (Cond.fieldLink RX6 14 "BorderBasis$Tables" "tableX" "LBorderBasis$Matrix;") := jx_mm1 (jx_tp 204 rfl) rfl
set_option maxRecDepth 20000 in
theorem kX6_20 : jx_mem (Cond.fieldLink RX6 20 "BorderBasis$Tables" "tableY" "LBorderBasis$Matrix;") := jx_mm1 (jx_tp 205 rfl) rfl
set_option maxRecDepth 20000 in
theorem kX6_23 : jx_mem (Cond.fieldLink RX6 23 "BorderBasis$Tables" "productXY" "LBorderBasis$Matrix;") := jx_mm1 (jx_tp 206 rfl) rfl
set_option maxRecDepth 20000 in
theorem kX6_26 : jx_mem (Cond.fieldLink RX6 26 "BorderBasis$Tables" "productYX" "LBorderBasis$Matrix;") := jx_mm1 (jx_tp 207 rfl) rfl
set_option maxRecDepth 20000 in
theorem kX6_29 : jx_mem (Cond.fieldLink RX6 29 "BorderBasis$Tables" "base" "LBorderBasis$Matrix;") := jx_mm1 (jx_tp 208 rfl) rfl
set_option maxRecDepth 20000 in
theorem kX6_32 : jx_mem (Cond.fieldLink RX6 32 "BorderBasis$Tables" "powerX" "LBorderBasis$Matrix;") := jx_mm1 (jx_tp 209 rfl) rfl
set_option maxRecDepth 20000 in
theorem kX6_35 : jx_mem (Cond.fieldLink RX6 35 "BorderBasis$Tables" "powerY" "LBorderBasis$Matrix;") := jx_mm1 (jx_tp 210 rfl) rfl
set_option maxRecDepth 20000 in
theorem kX6_38 : jx_mem (Cond.fieldLink RX6 38 "BorderBasis$Tables" "scratch" "LBorderBasis$Matrix;") := jx_mm1 (jx_tp 211 rfl) rfl
set_option maxRecDepth 20000 in
theorem kX6_41 : jx_mem (Cond.fieldLink RX6 41 "BorderBasis$Tables" "krylov" "LBorderBasis$Matrix;") := jx_mm1 (jx_tp 212 rfl) rfl
set_option maxRecDepth 20000 in
theorem kX6_44 : jx_mem (Cond.fieldLink RX6 44 "BorderBasis$Tables" "vector" "[I") := jx_mm1 (jx_tp 213 rfl) rfl
set_option maxRecDepth 20000 in
theorem kX6_48 : jx_mem (Cond.fieldLink RX6 48 "BorderBasis$Tables" "scratchVector" "[I") := jx_mm1 (jx_tp 214 rfl) rfl
set_option maxRecDepth 20000 in
theorem kX6_51 : jx_mem (Cond.fieldLink RX6 51 "BorderBasis$Tables" "formsY" "LBorderBasis$Matrix;") := jx_mm1 (jx_tp 215 rfl) rfl
set_option maxRecDepth 20000 in
theorem kX6_79 : jx_mem (Cond.fieldLink RX6 79 "BorderBasis$Tables" "known" "Z") := jx_mm1 (jx_tp 216 rfl) rfl
set_option maxRecDepth 20000 in
theorem kX9_312 : jx_mem (Cond.fieldLink RX9 312 "BorderBasis$Tables" "known" "Z") := jx_mm1 (jx_tp 217 rfl) rfl
set_option maxRecDepth 20000 in
theorem kX6_69 : jx_mem (Cond.fieldLink RX6 69 "BorderBasis$Tables" "differing" "I") := jx_mm1 (jx_tp 218 rfl) rfl
set_option maxRecDepth 20000 in
theorem kX6_73 : jx_mem (Cond.fieldLink RX6 73 "BorderBasis$Tables" "clashColumn" "I") := jx_mm1 (jx_tp 219 rfl) rfl
set_option maxRecDepth 20000 in
theorem kX6_76 : jx_mem (Cond.fieldLink RX6 76 "BorderBasis$Tables" "clashRow" "I") := jx_mm1 (jx_tp 220 rfl) rfl
set_option maxRecDepth 20000 in
theorem kX9_53 : jx_mem (Cond.classLink RX9 53 RX8) := jx_mm2 (jx_tp 16 rfl) rfl
set_option maxRecDepth 20000 in
theorem kins_X8 : jx_mem (Cond.instantiable RX8 15) := jx_mm2 (jx_tp 17 rfl) rfl
set_option maxRecDepth 20000 in
theorem kX9_55 : jx_mem (Cond.methodLink RX9 55 yX8_init) := jx_mm2 (jx_tp 18 rfl) rfl
set_option maxRecDepth 20000 in
theorem kim_X8_init : jx_mem (Cond.instanceMethod yX8_init) := jx_mm2 (jx_tp 19 rfl) rfl
set_option maxRecDepth 20000 in
theorem kc_X8_init : jx_mem (Cond.code yX8_init cX8_init 4 none) := jx_mm2 (jx_tp 20 rfl) rfl
set_option maxRecDepth 20000 in
theorem kX8_3 : jx_mem (Cond.methodLink RX8 3 objectInit) := jx_mm2 (jx_tp 21 rfl) rfl
set_option maxRecDepth 20000 in
theorem kX8_28 : jx_mem (Cond.classLink RX8 28 RX2) := jx_mm2 (jx_tp 22 rfl) rfl
set_option maxRecDepth 20000 in
theorem kX8_30 : jx_mem (Cond.methodLink RX8 30 yX2_init) := jx_mm2 (jx_tp 23 rfl) rfl
set_option maxRecDepth 20000 in
theorem kX8_51 : jx_mem (Cond.fieldLink RX8 51 "BorderBasis$Zeros" "state" "LBorderBasis$State;") := jx_mm2 (jx_tp 25 rfl) rfl
set_option maxRecDepth 20000 in
theorem kX8_55 : jx_mem (Cond.fieldLink RX8 55 "BorderBasis$Zeros" "tables" "LBorderBasis$Tables;") := jx_mm2 (jx_tp 26 rfl) rfl
set_option maxRecDepth 20000 in
theorem kX8_59 : jx_mem (Cond.fieldLink RX8 59 "BorderBasis$Zeros" "spot" "LBorderBasis$Spot;") := jx_mm2 (jx_tp 27 rfl) rfl
set_option maxRecDepth 20000 in
theorem kX8_9 : jx_mem (Cond.fieldLink RX8 9 "BorderBasis$Zeros" "rootsA" "[Z") := jx_mm2 (jx_tp 28 rfl) rfl
set_option maxRecDepth 20000 in
theorem kX8_15 : jx_mem (Cond.fieldLink RX8 15 "BorderBasis$Zeros" "rootsB" "[Z") := jx_mm2 (jx_tp 29 rfl) rfl
set_option maxRecDepth 20000 in
theorem kX8_18 : jx_mem (Cond.fieldLink RX8 18 "BorderBasis$Zeros" "zeroA" "[I") := jx_mm2 (jx_tp 30 rfl) rfl
set_option maxRecDepth 20000 in
theorem kX9_264 : jx_mem (Cond.fieldLink RX9 264 "BorderBasis$Zeros" "zeroA" "[I") := jx_mm2 (jx_tp 31 rfl) rfl
set_option maxRecDepth 20000 in
theorem kX8_22 : jx_mem (Cond.fieldLink RX8 22 "BorderBasis$Zeros" "zeroB" "[I") := jx_mm2 (jx_tp 32 rfl) rfl
set_option maxRecDepth 20000 in
theorem kX9_267 : jx_mem (Cond.fieldLink RX9 267 "BorderBasis$Zeros" "zeroB" "[I") := jx_mm2 (jx_tp 33 rfl) rfl
set_option maxRecDepth 20000 in
theorem kX8_25 : jx_mem (Cond.fieldLink RX8 25 "BorderBasis$Zeros" "multiplicities" "[I") := jx_mm2 (jx_tp 34 rfl) rfl
set_option maxRecDepth 20000 in
theorem kX8_33 : jx_mem (Cond.fieldLink RX8 33 "BorderBasis$Zeros" "power" "LBorderBasis$Matrix;") := jx_mm2 (jx_tp 35 rfl) rfl
set_option maxRecDepth 20000 in
theorem kX8_37 : jx_mem (Cond.fieldLink RX8 37 "BorderBasis$Zeros" "stacked" "LBorderBasis$Matrix;") := jx_mm2 (jx_tp 36 rfl) rfl
set_option maxRecDepth 20000 in
theorem kX8_40 : jx_mem (Cond.fieldLink RX8 40 "BorderBasis$Zeros" "form" "LBorderBasis$Matrix;") := jx_mm2 (jx_tp 37 rfl) rfl
set_option maxRecDepth 20000 in
theorem kX8_43 : jx_mem (Cond.fieldLink RX8 43 "BorderBasis$Zeros" "monomialTables" "[LBorderBasis$Matrix;") := jx_mm2 (jx_tp 38 rfl) rfl
set_option maxRecDepth 20000 in
theorem kX8_63 : jx_mem (Cond.fieldLink RX8 63 "BorderBasis$Zeros" "known" "Z") := jx_mm2 (jx_tp 39 rfl) rfl
set_option maxRecDepth 20000 in
theorem kX8_70 : jx_mem (Cond.fieldLink RX8 70 "BorderBasis$Zeros" "found" "I") := jx_mm2 (jx_tp 40 rfl) rfl
set_option maxRecDepth 20000 in
theorem kX8_47 : jx_mem (Cond.fieldLink RX8 47 "BorderBasis$Zeros" "distinct" "I") := jx_mm2 (jx_tp 41 rfl) rfl
set_option maxRecDepth 20000 in
theorem kac_boolean : jx_mem (Cond.arrayClass .boolean) := jx_mm2 (jx_tp 73 rfl) rfl
set_option maxRecDepth 20000 in
theorem kX9_62 : jx_mem (Cond.classLink RX9 62 RX0) := jx_mm2 (jx_tp 74 rfl) rfl
set_option maxRecDepth 20000 in
theorem kins_X0 : jx_mem (Cond.instantiable RX0 2) := jx_mm2 (jx_tp 75 rfl) rfl
set_option maxRecDepth 20000 in
theorem kX9_64 : jx_mem (Cond.methodLink RX9 64 yX0_init) := jx_mm2 (jx_tp 76 rfl) rfl
set_option maxRecDepth 20000 in
theorem kim_X0_init : jx_mem (Cond.instanceMethod yX0_init) := jx_mm2 (jx_tp 77 rfl) rfl
set_option maxRecDepth 20000 in
theorem kc_X0_init : jx_mem (Cond.code yX0_init cX0_init 2 none) := jx_mm2 (jx_tp 78 rfl) rfl
set_option maxRecDepth 20000 in
theorem kX0_3 : jx_mem (Cond.methodLink RX0 3 objectInit) := jx_mm2 (jx_tp 79 rfl) rfl
set_option maxRecDepth 20000 in
theorem kX0_9 : jx_mem (Cond.classLink RX0 9 RX2) := jx_mm2 (jx_tp 80 rfl) rfl
set_option maxRecDepth 20000 in
theorem kX0_11 : jx_mem (Cond.methodLink RX0 11 yX2_init) := jx_mm2 (jx_tp 81 rfl) rfl
set_option maxRecDepth 20000 in
theorem kX0_20 : jx_mem (Cond.fieldLink RX0 20 "BorderBasis$Fitter" "spot" "LBorderBasis$Spot;") := jx_mm2 (jx_tp 82 rfl) rfl
set_option maxRecDepth 20000 in
theorem kX0_14 : jx_mem (Cond.fieldLink RX0 14 "BorderBasis$Fitter" "values" "LBorderBasis$Matrix;") := jx_mm2 (jx_tp 83 rfl) rfl
set_option maxRecDepth 20000 in
theorem kX9_71 : jx_mem (Cond.classLink RX9 71 RX7) := jx_mm2 (jx_tp 89 rfl) rfl
set_option maxRecDepth 20000 in
theorem kins_X7 : jx_mem (Cond.instantiable RX7 6) := jx_mm2 (jx_tp 90 rfl) rfl
set_option maxRecDepth 20000 in
theorem kX9_73 : jx_mem (Cond.methodLinkNest RX9 73 yX7_init "BorderBasis") := jx_mm2 (jx_tp 91 rfl) rfl
set_option maxRecDepth 20000 in
theorem kim_X7_init : jx_mem (Cond.instanceMethod yX7_init) := jx_mm2 (jx_tp 92 rfl) rfl
set_option maxRecDepth 20000 in
theorem kc_X7_init : jx_mem (Cond.code yX7_init cX7_init 1 none) := jx_mm2 (jx_tp 93 rfl) rfl
set_option maxRecDepth 20000 in
theorem kX7_3 : jx_mem (Cond.methodLink RX7 3 objectInit) := jx_mm2 (jx_tp 94 rfl) rfl
set_option maxRecDepth 20000 in
theorem kX7_9 : jx_mem (Cond.fieldLink RX7 9 "BorderBasis$Text" "bytes" "[B") := jx_mm2 (jx_tp 95 rfl) rfl
set_option maxRecDepth 20000 in
theorem kX7_15 : jx_mem (Cond.fieldLink RX7 15 "BorderBasis$Text" "length" "I") := jx_mm2 (jx_tp 96 rfl) rfl
set_option maxRecDepth 20000 in
theorem kX9_93 : jx_mem (Cond.fieldLink RX9 93 "BorderBasis$Text" "length" "I") := jx_mm2 (jx_tp 97 rfl) rfl
set_option maxRecDepth 20000 in
theorem kX3_39 : jx_mem (Cond.fieldLink RX3 39 "BorderBasis$Text" "kind" "I") := jx_mm2 (jx_tp 98 rfl) rfl
set_option maxRecDepth 20000 in
theorem kX7_32 : jx_mem (Cond.fieldLink RX7 32 "BorderBasis$Text" "kind" "I") := jx_mm2 (jx_tp 99 rfl) rfl
set_option maxRecDepth 20000 in
theorem kX7_29 : jx_mem (Cond.fieldLink RX7 29 "BorderBasis$Text" "start" "I") := jx_mm2 (jx_tp 100 rfl) rfl
set_option maxRecDepth 20000 in
theorem kX3_109 : jx_mem (Cond.fieldLink RX3 109 "BorderBasis$Text" "start" "I") := jx_mm2 (jx_tp 101 rfl) rfl
set_option maxRecDepth 20000 in
theorem kX7_19 : jx_mem (Cond.fieldLink RX7 19 "BorderBasis$Text" "next" "I") := jx_mm2 (jx_tp 102 rfl) rfl
set_option maxRecDepth 20000 in
theorem kX7_42 : jx_mem (Cond.fieldLink RX7 42 "BorderBasis$Text" "number" "I") := jx_mm2 (jx_tp 103 rfl) rfl
set_option maxRecDepth 20000 in
theorem kX3_168 : jx_mem (Cond.fieldLink RX3 168 "BorderBasis$Text" "number" "I") := jx_mm2 (jx_tp 104 rfl) rfl
set_option maxRecDepth 20000 in
theorem kac_byte : jx_mem (Cond.arrayClass .byte) := jx_mm2 (jx_tp 118 rfl) rfl
set_option maxRecDepth 20000 in
theorem kX9_78 : jx_mem (Cond.classLink RX9 78 RX3) := jx_mm2 (jx_tp 119 rfl) rfl
set_option maxRecDepth 20000 in
theorem kins_X3 : jx_mem (Cond.instantiable RX3 11) := jx_mm2 (jx_tp 120 rfl) rfl
set_option maxRecDepth 20000 in
theorem kX9_80 : jx_mem (Cond.methodLink RX9 80 yX3_init) := jx_mm2 (jx_tp 121 rfl) rfl
set_option maxRecDepth 20000 in
theorem kim_X3_init : jx_mem (Cond.instanceMethod yX3_init) := jx_mm2 (jx_tp 122 rfl) rfl
set_option maxRecDepth 20000 in
theorem kc_X3_init : jx_mem (Cond.code yX3_init cX3_init 3 none) := jx_mm2 (jx_tp 123 rfl) rfl
set_option maxRecDepth 20000 in
theorem kX3_3 : jx_mem (Cond.methodLink RX3 3 objectInit) := jx_mm2 (jx_tp 124 rfl) rfl
set_option maxRecDepth 20000 in
theorem kX3_9 : jx_mem (Cond.classLink RX3 9 RX5) := jx_mm2 (jx_tp 125 rfl) rfl
set_option maxRecDepth 20000 in
theorem kX3_11 : jx_mem (Cond.methodLink RX3 11 yX5_init) := jx_mm2 (jx_tp 126 rfl) rfl
set_option maxRecDepth 20000 in
theorem kX3_26 : jx_mem (Cond.fieldLink RX3 26 "BorderBasis$Parser" "text" "LBorderBasis$Text;") := jx_mm2 (jx_tp 127 rfl) rfl
set_option maxRecDepth 20000 in
theorem kX3_30 : jx_mem (Cond.fieldLink RX3 30 "BorderBasis$Parser" "spare" "LBorderBasis$State;") := jx_mm2 (jx_tp 128 rfl) rfl
set_option maxRecDepth 20000 in
theorem kX3_12 : jx_mem (Cond.fieldLink RX3 12 "BorderBasis$Parser" "setup" "LBorderBasis$State;") := jx_mm2 (jx_tp 129 rfl) rfl
set_option maxRecDepth 20000 in
theorem kX9_111 : jx_mem (Cond.fieldLink RX9 111 "BorderBasis$Parser" "setup" "LBorderBasis$State;") := jx_mm2 (jx_tp 130 rfl) rfl
set_option maxRecDepth 20000 in
theorem kX3_18 : jx_mem (Cond.fieldLink RX3 18 "BorderBasis$Parser" "polynomial" "[I") := jx_mm2 (jx_tp 131 rfl) rfl
set_option maxRecDepth 20000 in
theorem kX9_139 : jx_mem (Cond.fieldLink RX9 139 "BorderBasis$Parser" "polynomial" "[I") := jx_mm2 (jx_tp 132 rfl) rfl
set_option maxRecDepth 20000 in
theorem kX3_75 : jx_mem (Cond.fieldLink RX3 75 "BorderBasis$Parser" "wrongCode" "I") := jx_mm2 (jx_tp 133 rfl) rfl
set_option maxRecDepth 20000 in
theorem kX9_146 : jx_mem (Cond.fieldLink RX9 146 "BorderBasis$Parser" "wrongCode" "I") := jx_mm2 (jx_tp 134 rfl) rfl
set_option maxRecDepth 20000 in
theorem kX3_22 : jx_mem (Cond.fieldLink RX3 22 "BorderBasis$Parser" "wrongPosition" "I") := jx_mm2 (jx_tp 135 rfl) rfl
set_option maxRecDepth 20000 in
theorem kX9_149 : jx_mem (Cond.fieldLink RX9 149 "BorderBasis$Parser" "wrongPosition" "I") := jx_mm2 (jx_tp 136 rfl) rfl
set_option maxRecDepth 20000 in
theorem kX3_62 : jx_mem (Cond.fieldLink RX3 62 "BorderBasis$Parser" "first" "I") := jx_mm2 (jx_tp 137 rfl) rfl
set_option maxRecDepth 20000 in
theorem kX3_65 : jx_mem (Cond.fieldLink RX3 65 "BorderBasis$Parser" "second" "I") := jx_mm2 (jx_tp 138 rfl) rfl
set_option maxRecDepth 20000 in
theorem kX3_68 : jx_mem (Cond.fieldLink RX3 68 "BorderBasis$Parser" "coefficient" "I") := jx_mm2 (jx_tp 139 rfl) rfl
set_option maxRecDepth 20000 in
theorem kX3_124 : jx_mem (Cond.fieldLink RX3 124 "BorderBasis$Parser" "numberStart" "I") := jx_mm2 (jx_tp 140 rfl) rfl
set_option maxRecDepth 20000 in
theorem kX3_142 : jx_mem (Cond.fieldLink RX3 142 "BorderBasis$Parser" "border" "I") := jx_mm2 (jx_tp 141 rfl) rfl
set_option maxRecDepth 20000 in
theorem kX9_12 : jx_mem (Cond.fieldLink RX9 12 "BorderBasis" "state" "LBorderBasis$State;") := jx_mm2 (jx_tp 165 rfl) rfl
set_option maxRecDepth 20000 in
theorem kX9_16 : jx_mem (Cond.fieldLink RX9 16 "BorderBasis" "spare" "LBorderBasis$State;") := jx_mm2 (jx_tp 166 rfl) rfl
set_option maxRecDepth 20000 in
theorem kX9_19 : jx_mem (Cond.fieldLink RX9 19 "BorderBasis" "fitted" "LBorderBasis$State;") := jx_mm2 (jx_tp 167 rfl) rfl
set_option maxRecDepth 20000 in
theorem kX9_22 : jx_mem (Cond.fieldLink RX9 22 "BorderBasis" "saved" "[LBorderBasis$State;") := jx_mm2 (jx_tp 168 rfl) rfl
set_option maxRecDepth 20000 in
theorem kX9_29 : jx_mem (Cond.fieldLink RX9 29 "BorderBasis" "history" "LBorderBasis$History;") := jx_mm2 (jx_tp 169 rfl) rfl
set_option maxRecDepth 20000 in
theorem kX9_33 : jx_mem (Cond.fieldLink RX9 33 "BorderBasis" "changeCounts" "[I") := jx_mm2 (jx_tp 170 rfl) rfl
set_option maxRecDepth 20000 in
theorem kX9_40 : jx_mem (Cond.fieldLink RX9 40 "BorderBasis" "spot" "LBorderBasis$Spot;") := jx_mm2 (jx_tp 171 rfl) rfl
set_option maxRecDepth 20000 in
theorem kX9_49 : jx_mem (Cond.fieldLink RX9 49 "BorderBasis" "tables" "LBorderBasis$Tables;") := jx_mm2 (jx_tp 172 rfl) rfl
set_option maxRecDepth 20000 in
theorem kX9_58 : jx_mem (Cond.fieldLink RX9 58 "BorderBasis" "zeros" "LBorderBasis$Zeros;") := jx_mm2 (jx_tp 173 rfl) rfl
set_option maxRecDepth 20000 in
theorem kX9_67 : jx_mem (Cond.fieldLink RX9 67 "BorderBasis" "fitter" "LBorderBasis$Fitter;") := jx_mm2 (jx_tp 174 rfl) rfl
set_option maxRecDepth 20000 in
theorem kX9_74 : jx_mem (Cond.fieldLink RX9 74 "BorderBasis" "text" "LBorderBasis$Text;") := jx_mm2 (jx_tp 175 rfl) rfl
set_option maxRecDepth 20000 in
theorem kX9_83 : jx_mem (Cond.fieldLink RX9 83 "BorderBasis" "parser" "LBorderBasis$Parser;") := jx_mm2 (jx_tp 176 rfl) rfl
set_option maxRecDepth 20000 in
theorem kX9_87 : jx_mem (Cond.fieldLink RX9 87 "BorderBasis" "result" "[I") := jx_mm2 (jx_tp 177 rfl) rfl
set_option maxRecDepth 20000 in
theorem kX9_90 : jx_mem (Cond.fieldLink RX9 90 "BorderBasis" "column" "[I") := jx_mm2 (jx_tp 178 rfl) rfl
set_option maxRecDepth 20000 in
theorem kL_120 : jx_mem (Cond.methodLink RL 120 yX9_load) := jx_mm2 (jx_tp 208 rfl) rfl
set_option maxRecDepth 20000 in
theorem kim_X9_load : jx_mem (Cond.instanceMethod yX9_load) := jx_mm2 (jx_tp 209 rfl) rfl
set_option maxRecDepth 20000 in
theorem ksel_X9_load : jx_mem (Cond.selects RX9 yX9_load yX9_load) := jx_mm2 (jx_tp 210 rfl) rfl
set_option maxRecDepth 20000 in
theorem kc_X9_load : jx_mem (Cond.code yX9_load cX9_load 2 (some .int)) := jx_mm2 (jx_tp 211 rfl) rfl
set_option maxRecDepth 20000 in
theorem kX9_107 : jx_mem (Cond.methodLink RX9 107 yX3_readSetup) := jx_mm2 (jx_tp 212 rfl) rfl
set_option maxRecDepth 20000 in
theorem kim_X3_readSetup : jx_mem (Cond.instanceMethod yX3_readSetup) := jx_mm2 (jx_tp 213 rfl) rfl
set_option maxRecDepth 20000 in
theorem ksel_X3_readSetup : jx_mem (Cond.selects RX3 yX3_readSetup yX3_readSetup) := jx_mm2 (jx_tp 214 rfl) rfl
set_option maxRecDepth 20000 in
theorem kc_X3_readSetup : jx_mem (Cond.code yX3_readSetup cX3_readSetup 3 (some .boolean)) := jx_mm2 (jx_tp 215 rfl) rfl
set_option maxRecDepth 20000 in
theorem kX3_33 : jx_mem (Cond.methodLink RX3 33 yX3_begin) := jx_mm2 (jx_tp 216 rfl) rfl
set_option maxRecDepth 20000 in
theorem kim_X3_begin : jx_mem (Cond.instanceMethod yX3_begin) := jx_mm2 (jx_tp 218 rfl) rfl
set_option maxRecDepth 20000 in
theorem kc_X3_begin : jx_mem (Cond.code yX3_begin cX3_begin 1 none) := jx_mm2 (jx_tp 219 rfl) rfl
set_option maxRecDepth 20000 in
theorem kX3_78 : jx_mem (Cond.methodLink RX3 78 yX7_rewind) := jx_mm2 (jx_tp 220 rfl) rfl
set_option maxRecDepth 20000 in
theorem kim_X7_rewind : jx_mem (Cond.instanceMethod yX7_rewind) := jx_mm2 (jx_tp 221 rfl) rfl
set_option maxRecDepth 20000 in
theorem ksel_X7_rewind : jx_mem (Cond.selects RX7 yX7_rewind yX7_rewind) := jx_mm2 (jx_tp 222 rfl) rfl
set_option maxRecDepth 20000 in
theorem kc_X7_rewind : jx_mem (Cond.code yX7_rewind cX7_rewind 1 none) := jx_mm2 (jx_tp 223 rfl) rfl
set_option maxRecDepth 20000 in
theorem kX7_22 : jx_mem (Cond.methodLink RX7 22 yX7_advance) := jx_mm2 (jx_tp 224 rfl) rfl
set_option maxRecDepth 20000 in
theorem kim_X7_advance : jx_mem (Cond.instanceMethod yX7_advance) := jx_mm2 (jx_tp 225 rfl) rfl
set_option maxRecDepth 20000 in
theorem ksel_X7_advance : jx_mem (Cond.selects RX7 yX7_advance yX7_advance) := jx_mm2 (jx_tp 226 rfl) rfl
set_option maxRecDepth 20000 in
theorem kc_X7_advance : jx_mem (Cond.code yX7_advance cX7_advance 2 none) := jx_mm2 (jx_tp 227 rfl) rfl
set_option maxRecDepth 20000 in
theorem kX7_25 : jx_mem (Cond.methodLink RX7 25 yX7_byteAt) := jx_mm2 (jx_tp 228 rfl) rfl
set_option maxRecDepth 20000 in
theorem kim_X7_byteAt : jx_mem (Cond.instanceMethod yX7_byteAt) := jx_mm2 (jx_tp 230 rfl) rfl
set_option maxRecDepth 20000 in
theorem kc_X7_byteAt : jx_mem (Cond.code yX7_byteAt cX7_byteAt 2 (some .int)) := jx_mm2 (jx_tp 231 rfl) rfl
set_option maxRecDepth 20000 in
theorem kX7_35 : jx_mem (Cond.methodLink RX7 35 yX7_isLetter) := jx_mm2 (jx_tp 232 rfl) rfl
set_option maxRecDepth 20000 in
theorem kst_X7_isLetter : jx_mem (Cond.static yX7_isLetter) := jx_mm2 (jx_tp 233 rfl) rfl
set_option maxRecDepth 20000 in
theorem kc_X7_isLetter : jx_mem (Cond.code yX7_isLetter cX7_isLetter 1 (some .boolean)) := jx_mm2 (jx_tp 234 rfl) rfl
set_option maxRecDepth 20000 in
theorem kX7_39 : jx_mem (Cond.methodLink RX7 39 yX7_isDigit) := jx_mm2 (jx_tp 235 rfl) rfl
set_option maxRecDepth 20000 in
theorem kst_X7_isDigit : jx_mem (Cond.static yX7_isDigit) := jx_mm2 (jx_tp 236 rfl) rfl
set_option maxRecDepth 20000 in
theorem kc_X7_isDigit : jx_mem (Cond.code yX7_isDigit cX7_isDigit 1 (some .boolean)) := jx_mm2 (jx_tp 237 rfl) rfl
set_option maxRecDepth 20000 in
theorem kX7_46 : jx_mem (Cond.methodLink RX7 46 Lib.Math.min.name) := jx_mm2 (jx_tp 239 rfl) rfl
set_option maxRecDepth 20000 in
theorem kst_Math_min : jx_mem (Cond.static Lib.Math.min.name) := jx_mm3 (jx_tp 0 rfl) rfl
set_option maxRecDepth 20000 in
theorem kc_Math_min : jx_mem (Cond.code Lib.Math.min.name Lib.Math.min.code 2 (some .int)) := jx_mm3 (jx_tp 1 rfl) rfl
set_option maxRecDepth 20000 in
theorem kX3_36 : jx_mem (Cond.methodLink RX3 36 yX5_reset) := jx_mm3 (jx_tp 2 rfl) rfl
set_option maxRecDepth 20000 in
theorem kX3_44 : jx_mem (Cond.methodLink RX3 44 yX3_readStatement) := jx_mm3 (jx_tp 3 rfl) rfl
set_option maxRecDepth 20000 in
theorem kim_X3_readStatement : jx_mem (Cond.instanceMethod yX3_readStatement) := jx_mm3 (jx_tp 5 rfl) rfl
set_option maxRecDepth 20000 in
theorem kc_X3_readStatement : jx_mem (Cond.code yX3_readStatement cX3_readStatement 2 (some .boolean)) := jx_mm3 (jx_tp 6 rfl) rfl
set_option maxRecDepth 20000 in
theorem kX3_83 : jx_mem (Cond.methodLink RX3 83 yX7_isWord) := jx_mm3 (jx_tp 8 rfl) rfl
set_option maxRecDepth 20000 in
theorem kim_X7_isWord : jx_mem (Cond.instanceMethod yX7_isWord) := jx_mm3 (jx_tp 9 rfl) rfl
set_option maxRecDepth 20000 in
theorem ksel_X7_isWord : jx_mem (Cond.selects RX7 yX7_isWord yX7_isWord) := jx_mm3 (jx_tp 10 rfl) rfl
set_option maxRecDepth 20000 in
theorem kc_X7_isWord : jx_mem (Cond.code yX7_isWord cX7_isWord 3 (some .boolean)) := jx_mm3 (jx_tp 11 rfl) rfl
set_option maxRecDepth 20000 in
theorem kX7_52 : jx_mem (Cond.methodLink RX7 52 yJ0_length_8abf5) := jx_mm3 (jx_tp 12 rfl) rfl
set_option maxRecDepth 20000 in
theorem kim_J0_length_8abf5 : jx_mem (Cond.instanceMethod yJ0_length_8abf5) := jx_mm3 (jx_tp 13 rfl) rfl
set_option maxRecDepth 20000 in
theorem ksel_J0_length_8abf5 : jx_mem (Cond.selects RJ0 yJ0_length_8abf5 yJ0_length_8abf5) := jx_mm3 (jx_tp 14 rfl) rfl
set_option maxRecDepth 20000 in
theorem kc_J0_length_8abf5 : jx_mem (Cond.code yJ0_length_8abf5 cJ0_length_8abf5 1 (some .int)) := jx_mm3 (jx_tp 15 rfl) rfl
set_option maxRecDepth 20000 in
theorem kJ0_335 : jx_mem (Cond.methodLink RJ0 335 yJ0_coder_7d493) := jx_mm3 (jx_tp 16 rfl) rfl
set_option maxRecDepth 20000 in
theorem kim_J0_coder_7d493 : jx_mem (Cond.instanceMethod yJ0_coder_7d493) := jx_mm3 (jx_tp 17 rfl) rfl
set_option maxRecDepth 20000 in
theorem ksel_J0_coder_7d493 : jx_mem (Cond.selects RJ0 yJ0_coder_7d493 yJ0_coder_7d493) := jx_mm3 (jx_tp 18 rfl) rfl
set_option maxRecDepth 20000 in
theorem kc_J0_coder_7d493 : jx_mem (Cond.code yJ0_coder_7d493 cJ0_coder_7d493 1 (some .byte)) := jx_mm3 (jx_tp 19 rfl) rfl
set_option maxRecDepth 20000 in
theorem kJ0_38 : jx_mem (Cond.fieldLink RJ0 38 "java/lang/String" "COMPACT_STRINGS" "Z") := jx_mm3 (jx_tp 20 rfl) rfl
set_option maxRecDepth 20000 in
theorem kX7_57 : jx_mem (Cond.methodLink RX7 57 yJ0_charAt_5068e) := jx_mm3 (jx_tp 22 rfl) rfl
set_option maxRecDepth 20000 in
theorem kim_J0_charAt_5068e : jx_mem (Cond.instanceMethod yJ0_charAt_5068e) := jx_mm3 (jx_tp 23 rfl) rfl
set_option maxRecDepth 20000 in
theorem ksel_J0_charAt_5068e : jx_mem (Cond.selects RJ0 yJ0_charAt_5068e yJ0_charAt_5068e) := jx_mm3 (jx_tp 24 rfl) rfl
set_option maxRecDepth 20000 in
theorem kc_J0_charAt_5068e : jx_mem (Cond.code yJ0_charAt_5068e cJ0_charAt_5068e 2 (some .char)) := jx_mm3 (jx_tp 25 rfl) rfl
set_option maxRecDepth 20000 in
theorem kJ0_492 : jx_mem (Cond.methodLink RJ0 492 yJ0_isLatin1_aae02) := jx_mm3 (jx_tp 26 rfl) rfl
set_option maxRecDepth 20000 in
theorem kim_J0_isLatin1_aae02 : jx_mem (Cond.instanceMethod yJ0_isLatin1_aae02) := jx_mm3 (jx_tp 27 rfl) rfl
set_option maxRecDepth 20000 in
theorem ksel_J0_isLatin1_aae02 : jx_mem (Cond.selects RJ0 yJ0_isLatin1_aae02 yJ0_isLatin1_aae02) := jx_mm3 (jx_tp 28 rfl) rfl
set_option maxRecDepth 20000 in
theorem kc_J0_isLatin1_aae02 : jx_mem (Cond.code yJ0_isLatin1_aae02 cJ0_isLatin1_aae02 1 (some .boolean)) := jx_mm3 (jx_tp 29 rfl) rfl
set_option maxRecDepth 20000 in
theorem kJ0_495 : jx_mem (Cond.methodLink RJ0 495 yJ1_charAt_3b067) := jx_mm3 (jx_tp 30 rfl) rfl
set_option maxRecDepth 20000 in
theorem kst_J1_charAt_3b067 : jx_mem (Cond.static yJ1_charAt_3b067) := jx_mm3 (jx_tp 31 rfl) rfl
set_option maxRecDepth 20000 in
theorem kc_J1_charAt_3b067 : jx_mem (Cond.code yJ1_charAt_3b067 cJ1_charAt_3b067 2 (some .char)) := jx_mm3 (jx_tp 32 rfl) rfl
set_option maxRecDepth 20000 in
theorem kJ1_9 : jx_mem (Cond.methodLink RJ1 9 yJ0_checkIndex_df160) := jx_mm3 (jx_tp 33 rfl) rfl
set_option maxRecDepth 20000 in
theorem kst_J0_checkIndex_df160 : jx_mem (Cond.static yJ0_checkIndex_df160) := jx_mm3 (jx_tp 34 rfl) rfl
set_option maxRecDepth 20000 in
theorem kc_J0_checkIndex_df160 : jx_mem (Cond.code yJ0_checkIndex_df160 cJ0_checkIndex_df160 2 none) := jx_mm3 (jx_tp 35 rfl) rfl
set_option maxRecDepth 20000 in
theorem kJ0_1053 : jx_mem (Cond.fieldLink RJ0 1053 "jdk/internal/util/Preconditions" "SIOOBE_FORMATTER" "Ljava/util/function/BiFunction;") := jx_mm3 (jx_tp 36 rfl) rfl
set_option maxRecDepth 20000 in
theorem kJ0_1059 : jx_mem (Cond.methodLink RJ0 1059 yJ3_checkIndex_8e157) := jx_mm3 (jx_tp 38 rfl) rfl
set_option maxRecDepth 20000 in
theorem kst_J3_checkIndex_8e157 : jx_mem (Cond.static yJ3_checkIndex_8e157) := jx_mm3 (jx_tp 39 rfl) rfl
set_option maxRecDepth 20000 in
theorem kc_J3_checkIndex_8e157 : jx_mem (Cond.code yJ3_checkIndex_8e157 cJ3_checkIndex_8e157 3 (some .int)) := jx_mm3 (jx_tp 40 rfl) rfl
set_option maxRecDepth 20000 in
theorem kJ0_498 : jx_mem (Cond.methodLink RJ0 498 ⟨"java/lang/StringUTF16", "charAt", "([BI)C"⟩) := jx_mm3 (jx_tp 41 rfl) rfl
set_option maxRecDepth 20000 in
theorem kJ2_67 : jx_mem (Cond.methodLink RJ2 67 yJ2_checkIndex_2214a) := jx_mm3 (jx_tp 44 rfl) rfl
set_option maxRecDepth 20000 in
theorem kst_J2_checkIndex_2214a : jx_mem (Cond.static yJ2_checkIndex_2214a) := jx_mm3 (jx_tp 45 rfl) rfl
set_option maxRecDepth 20000 in
theorem kc_J2_checkIndex_2214a : jx_mem (Cond.code yJ2_checkIndex_2214a cJ2_checkIndex_2214a 2 none) := jx_mm3 (jx_tp 46 rfl) rfl
set_option maxRecDepth 20000 in
theorem kJ2_48 : jx_mem (Cond.methodLink RJ2 48 ⟨"java/lang/StringUTF16", "length", "([B)I"⟩) := jx_mm3 (jx_tp 47 rfl) rfl
set_option maxRecDepth 20000 in
theorem kJ2_414 : jx_mem (Cond.methodLink RJ2 414 yJ0_checkIndex_df160) := jx_mm3 (jx_tp 50 rfl) rfl
set_option maxRecDepth 20000 in
theorem kJ2_71 : jx_mem (Cond.methodLink RJ2 71 ⟨"java/lang/StringUTF16", "getChar", "([BI)C"⟩) := jx_mm3 (jx_tp 51 rfl) rfl
set_option maxRecDepth 20000 in
theorem kJ2_44 : jx_mem (Cond.fieldLink RJ2 44 "java/lang/StringUTF16" "$assertionsDisabled" "Z") := jx_mm3 (jx_tp 54 rfl) rfl
set_option maxRecDepth 20000 in
theorem kJ2_59 : jx_mem (Cond.fieldLink RJ2 59 "java/lang/StringUTF16" "HI_BYTE_SHIFT" "I") := jx_mm3 (jx_tp 56 rfl) rfl
set_option maxRecDepth 20000 in
theorem kJ2_63 : jx_mem (Cond.fieldLink RJ2 63 "java/lang/StringUTF16" "LO_BYTE_SHIFT" "I") := jx_mm3 (jx_tp 58 rfl) rfl
set_option maxRecDepth 20000 in
theorem kX3_87 : jx_mem (Cond.methodLink RX3 87 yX3_readJoin) := jx_mm3 (jx_tp 60 rfl) rfl
set_option maxRecDepth 20000 in
theorem kim_X3_readJoin : jx_mem (Cond.instanceMethod yX3_readJoin) := jx_mm3 (jx_tp 62 rfl) rfl
set_option maxRecDepth 20000 in
theorem kc_X3_readJoin : jx_mem (Cond.code yX3_readJoin cX3_readJoin 1 (some .boolean)) := jx_mm3 (jx_tp 63 rfl) rfl
set_option maxRecDepth 20000 in
theorem kX3_112 : jx_mem (Cond.methodLink RX3 112 yX3_fail) := jx_mm3 (jx_tp 64 rfl) rfl
set_option maxRecDepth 20000 in
theorem kim_X3_fail : jx_mem (Cond.instanceMethod yX3_fail) := jx_mm3 (jx_tp 66 rfl) rfl
set_option maxRecDepth 20000 in
theorem kc_X3_fail : jx_mem (Cond.code yX3_fail cX3_fail 3 (some .boolean)) := jx_mm3 (jx_tp 67 rfl) rfl
set_option maxRecDepth 20000 in
theorem kX3_115 : jx_mem (Cond.methodLink RX3 115 yX7_advance) := jx_mm3 (jx_tp 68 rfl) rfl
set_option maxRecDepth 20000 in
theorem kX3_118 : jx_mem (Cond.methodLink RX3 118 yX3_takeNumber) := jx_mm3 (jx_tp 69 rfl) rfl
set_option maxRecDepth 20000 in
theorem kim_X3_takeNumber : jx_mem (Cond.instanceMethod yX3_takeNumber) := jx_mm3 (jx_tp 71 rfl) rfl
set_option maxRecDepth 20000 in
theorem kc_X3_takeNumber : jx_mem (Cond.code yX3_takeNumber cX3_takeNumber 2 (some .boolean)) := jx_mm3 (jx_tp 72 rfl) rfl
set_option maxRecDepth 20000 in
theorem kX3_132 : jx_mem (Cond.methodLink RX3 132 yX5_obstacle) := jx_mm3 (jx_tp 73 rfl) rfl
set_option maxRecDepth 20000 in
theorem kim_X5_obstacle : jx_mem (Cond.instanceMethod yX5_obstacle) := jx_mm3 (jx_tp 74 rfl) rfl
set_option maxRecDepth 20000 in
theorem ksel_X5_obstacle : jx_mem (Cond.selects RX5 yX5_obstacle yX5_obstacle) := jx_mm3 (jx_tp 75 rfl) rfl
set_option maxRecDepth 20000 in
theorem kc_X5_obstacle : jx_mem (Cond.code yX5_obstacle cX5_obstacle 3 (some .int)) := jx_mm3 (jx_tp 76 rfl) rfl
set_option maxRecDepth 20000 in
theorem kX3_135 : jx_mem (Cond.methodLink RX3 135 yX5_changeHeight) := jx_mm3 (jx_tp 77 rfl) rfl
set_option maxRecDepth 20000 in
theorem kim_X5_changeHeight : jx_mem (Cond.instanceMethod yX5_changeHeight) := jx_mm3 (jx_tp 78 rfl) rfl
set_option maxRecDepth 20000 in
theorem ksel_X5_changeHeight : jx_mem (Cond.selects RX5 yX5_changeHeight yX5_changeHeight) := jx_mm3 (jx_tp 79 rfl) rfl
set_option maxRecDepth 20000 in
theorem kc_X5_changeHeight : jx_mem (Cond.code yX5_changeHeight cX5_changeHeight 4 none) := jx_mm3 (jx_tp 80 rfl) rfl
set_option maxRecDepth 20000 in
theorem kX5_78 : jx_mem (Cond.methodLinkNest RX5 78 yX9_isOutside "BorderBasis") := jx_mm3 (jx_tp 81 rfl) rfl
set_option maxRecDepth 20000 in
theorem kst_X9_isOutside : jx_mem (Cond.static yX9_isOutside) := jx_mm3 (jx_tp 82 rfl) rfl
set_option maxRecDepth 20000 in
theorem kc_X9_isOutside : jx_mem (Cond.code yX9_isOutside cX9_isOutside 2 (some .boolean)) := jx_mm3 (jx_tp 83 rfl) rfl
set_option maxRecDepth 20000 in
theorem kX5_81 : jx_mem (Cond.methodLink RX5 81 yX5_copyFrom) := jx_mm3 (jx_tp 84 rfl) rfl
set_option maxRecDepth 20000 in
theorem kim_X5_copyFrom : jx_mem (Cond.instanceMethod yX5_copyFrom) := jx_mm3 (jx_tp 85 rfl) rfl
set_option maxRecDepth 20000 in
theorem ksel_X5_copyFrom : jx_mem (Cond.selects RX5 yX5_copyFrom yX5_copyFrom) := jx_mm3 (jx_tp 86 rfl) rfl
set_option maxRecDepth 20000 in
theorem kc_X5_copyFrom : jx_mem (Cond.code yX5_copyFrom cX5_copyFrom 2 none) := jx_mm3 (jx_tp 87 rfl) rfl
set_option maxRecDepth 20000 in
theorem kX5_61 : jx_mem (Cond.methodLink RX5 61 arraycopyName) := jx_mm3 (jx_tp 88 rfl) rfl
set_option maxRecDepth 20000 in
theorem kst_Acopy : jx_mem (Cond.static arraycopyName) := jx_mm3 (jx_tp 89 rfl) rfl
set_option maxRecDepth 20000 in
theorem knat_Acopy : jx_mem (Cond.native arraycopyName) := jx_mm3 (jx_tp 90 rfl) rfl
set_option maxRecDepth 20000 in
theorem kX5_85 : jx_mem (Cond.methodLink RX5 85 yX5_inheritRules) := jx_mm3 (jx_tp 91 rfl) rfl
set_option maxRecDepth 20000 in
theorem kim_X5_inheritRules : jx_mem (Cond.instanceMethod yX5_inheritRules) := jx_mm3 (jx_tp 93 rfl) rfl
set_option maxRecDepth 20000 in
theorem kc_X5_inheritRules : jx_mem (Cond.code yX5_inheritRules cX5_inheritRules 6 none) := jx_mm3 (jx_tp 94 rfl) rfl
set_option maxRecDepth 20000 in
theorem kX5_92 : jx_mem (Cond.methodLink RX5 92 yX5_borderNumberOf) := jx_mm3 (jx_tp 95 rfl) rfl
set_option maxRecDepth 20000 in
theorem kim_X5_borderNumberOf : jx_mem (Cond.instanceMethod yX5_borderNumberOf) := jx_mm3 (jx_tp 96 rfl) rfl
set_option maxRecDepth 20000 in
theorem ksel_X5_borderNumberOf : jx_mem (Cond.selects RX5 yX5_borderNumberOf yX5_borderNumberOf) := jx_mm3 (jx_tp 97 rfl) rfl
set_option maxRecDepth 20000 in
theorem kc_X5_borderNumberOf : jx_mem (Cond.code yX5_borderNumberOf cX5_borderNumberOf 4 (some .int)) := jx_mm3 (jx_tp 98 rfl) rfl
set_option maxRecDepth 20000 in
theorem kX5_95 : jx_mem (Cond.methodLink RX5 95 yX5_numberOf) := jx_mm3 (jx_tp 99 rfl) rfl
set_option maxRecDepth 20000 in
theorem kim_X5_numberOf : jx_mem (Cond.instanceMethod yX5_numberOf) := jx_mm3 (jx_tp 100 rfl) rfl
set_option maxRecDepth 20000 in
theorem ksel_X5_numberOf : jx_mem (Cond.selects RX5 yX5_numberOf yX5_numberOf) := jx_mm3 (jx_tp 101 rfl) rfl
set_option maxRecDepth 20000 in
theorem kc_X5_numberOf : jx_mem (Cond.code yX5_numberOf cX5_numberOf 4 (some .int)) := jx_mm3 (jx_tp 102 rfl) rfl
set_option maxRecDepth 20000 in
theorem kX5_98 : jx_mem (Cond.methodLink RX5 98 yX5_coefficient) := jx_mm3 (jx_tp 103 rfl) rfl
set_option maxRecDepth 20000 in
theorem kim_X5_coefficient : jx_mem (Cond.instanceMethod yX5_coefficient) := jx_mm3 (jx_tp 104 rfl) rfl
set_option maxRecDepth 20000 in
theorem ksel_X5_coefficient : jx_mem (Cond.selects RX5 yX5_coefficient yX5_coefficient) := jx_mm3 (jx_tp 105 rfl) rfl
set_option maxRecDepth 20000 in
theorem kc_X5_coefficient : jx_mem (Cond.code yX5_coefficient cX5_coefficient 3 (some .int)) := jx_mm3 (jx_tp 106 rfl) rfl
set_option maxRecDepth 20000 in
theorem kX5_101 : jx_mem (Cond.methodLink RX5 101 yX5_hasCoefficient) := jx_mm3 (jx_tp 107 rfl) rfl
set_option maxRecDepth 20000 in
theorem kim_X5_hasCoefficient : jx_mem (Cond.instanceMethod yX5_hasCoefficient) := jx_mm3 (jx_tp 108 rfl) rfl
set_option maxRecDepth 20000 in
theorem ksel_X5_hasCoefficient : jx_mem (Cond.selects RX5 yX5_hasCoefficient yX5_hasCoefficient) := jx_mm3 (jx_tp 109 rfl) rfl
set_option maxRecDepth 20000 in
theorem kc_X5_hasCoefficient : jx_mem (Cond.code yX5_hasCoefficient cX5_hasCoefficient 3 (some .boolean)) := jx_mm3 (jx_tp 110 rfl) rfl
set_option maxRecDepth 20000 in
theorem kX3_93 : jx_mem (Cond.methodLink RX3 93 yX3_readRuleHead) := jx_mm3 (jx_tp 112 rfl) rfl
set_option maxRecDepth 20000 in
theorem kim_X3_readRuleHead : jx_mem (Cond.instanceMethod yX3_readRuleHead) := jx_mm3 (jx_tp 114 rfl) rfl
set_option maxRecDepth 20000 in
theorem kc_X3_readRuleHead : jx_mem (Cond.code yX3_readRuleHead cX3_readRuleHead 1 (some .boolean)) := jx_mm3 (jx_tp 115 rfl) rfl
set_option maxRecDepth 20000 in
theorem kX3_139 : jx_mem (Cond.methodLink RX3 139 yX5_borderNumberOf) := jx_mm3 (jx_tp 116 rfl) rfl
set_option maxRecDepth 20000 in
theorem kX3_147 : jx_mem (Cond.methodLink RX3 147 yX5_clearRule) := jx_mm3 (jx_tp 118 rfl) rfl
set_option maxRecDepth 20000 in
theorem kim_X5_clearRule : jx_mem (Cond.instanceMethod yX5_clearRule) := jx_mm3 (jx_tp 119 rfl) rfl
set_option maxRecDepth 20000 in
theorem ksel_X5_clearRule : jx_mem (Cond.selects RX5 yX5_clearRule yX5_clearRule) := jx_mm3 (jx_tp 120 rfl) rfl
set_option maxRecDepth 20000 in
theorem kc_X5_clearRule : jx_mem (Cond.code yX5_clearRule cX5_clearRule 3 none) := jx_mm3 (jx_tp 121 rfl) rfl
set_option maxRecDepth 20000 in
theorem kX5_104 : jx_mem (Cond.methodLink RX5 104 yX5_setCoefficient) := jx_mm3 (jx_tp 122 rfl) rfl
set_option maxRecDepth 20000 in
theorem kim_X5_setCoefficient : jx_mem (Cond.instanceMethod yX5_setCoefficient) := jx_mm3 (jx_tp 123 rfl) rfl
set_option maxRecDepth 20000 in
theorem ksel_X5_setCoefficient : jx_mem (Cond.selects RX5 yX5_setCoefficient yX5_setCoefficient) := jx_mm3 (jx_tp 124 rfl) rfl
set_option maxRecDepth 20000 in
theorem kc_X5_setCoefficient : jx_mem (Cond.code yX5_setCoefficient cX5_setCoefficient 4 none) := jx_mm3 (jx_tp 125 rfl) rfl
set_option maxRecDepth 20000 in
theorem kX3_96 : jx_mem (Cond.methodLink RX3 96 yX3_readRuleTerms) := jx_mm3 (jx_tp 126 rfl) rfl
set_option maxRecDepth 20000 in
theorem kim_X3_readRuleTerms : jx_mem (Cond.instanceMethod yX3_readRuleTerms) := jx_mm3 (jx_tp 128 rfl) rfl
set_option maxRecDepth 20000 in
theorem kc_X3_readRuleTerms : jx_mem (Cond.code yX3_readRuleTerms cX3_readRuleTerms 4 (some .boolean)) := jx_mm3 (jx_tp 129 rfl) rfl
set_option maxRecDepth 20000 in
theorem kX3_58 : jx_mem (Cond.methodLink RX3 58 yX3_readTerm) := jx_mm3 (jx_tp 130 rfl) rfl
set_option maxRecDepth 20000 in
theorem kim_X3_readTerm : jx_mem (Cond.instanceMethod yX3_readTerm) := jx_mm3 (jx_tp 132 rfl) rfl
set_option maxRecDepth 20000 in
theorem kc_X3_readTerm : jx_mem (Cond.code yX3_readTerm cX3_readTerm 4 (some .boolean)) := jx_mm3 (jx_tp 133 rfl) rfl
set_option maxRecDepth 20000 in
theorem kX3_71 : jx_mem (Cond.methodLinkNest RX3 71 yX9_residue "BorderBasis") := jx_mm3 (jx_tp 134 rfl) rfl
set_option maxRecDepth 20000 in
theorem kst_X9_residue : jx_mem (Cond.static yX9_residue) := jx_mm3 (jx_tp 135 rfl) rfl
set_option maxRecDepth 20000 in
theorem kc_X9_residue : jx_mem (Cond.code yX9_residue cX9_residue 3 (some .int)) := jx_mm3 (jx_tp 136 rfl) rfl
set_option maxRecDepth 20000 in
theorem kX3_151 : jx_mem (Cond.methodLink RX3 151 yX5_numberOf) := jx_mm3 (jx_tp 137 rfl) rfl
set_option maxRecDepth 20000 in
theorem kX3_154 : jx_mem (Cond.methodLink RX3 154 yX5_setCoefficient) := jx_mm3 (jx_tp 138 rfl) rfl
set_option maxRecDepth 20000 in
theorem kX3_101 : jx_mem (Cond.methodLink RX3 101 yX3_readPoint) := jx_mm3 (jx_tp 140 rfl) rfl
set_option maxRecDepth 20000 in
theorem kim_X3_readPoint : jx_mem (Cond.instanceMethod yX3_readPoint) := jx_mm3 (jx_tp 142 rfl) rfl
set_option maxRecDepth 20000 in
theorem kc_X3_readPoint : jx_mem (Cond.code yX3_readPoint cX3_readPoint 1 (some .boolean)) := jx_mm3 (jx_tp 143 rfl) rfl
set_option maxRecDepth 20000 in
theorem kX3_161 : jx_mem (Cond.methodLink RX3 161 yX5_hasPoint) := jx_mm3 (jx_tp 144 rfl) rfl
set_option maxRecDepth 20000 in
theorem kim_X5_hasPoint : jx_mem (Cond.instanceMethod yX5_hasPoint) := jx_mm3 (jx_tp 145 rfl) rfl
set_option maxRecDepth 20000 in
theorem ksel_X5_hasPoint : jx_mem (Cond.selects RX5 yX5_hasPoint yX5_hasPoint) := jx_mm3 (jx_tp 146 rfl) rfl
set_option maxRecDepth 20000 in
theorem kc_X5_hasPoint : jx_mem (Cond.code yX5_hasPoint cX5_hasPoint 4 (some .boolean)) := jx_mm3 (jx_tp 147 rfl) rfl
set_option maxRecDepth 20000 in
theorem kX3_164 : jx_mem (Cond.methodLink RX3 164 yX5_appendPoint) := jx_mm3 (jx_tp 148 rfl) rfl
set_option maxRecDepth 20000 in
theorem kim_X5_appendPoint : jx_mem (Cond.instanceMethod yX5_appendPoint) := jx_mm3 (jx_tp 149 rfl) rfl
set_option maxRecDepth 20000 in
theorem ksel_X5_appendPoint : jx_mem (Cond.selects RX5 yX5_appendPoint yX5_appendPoint) := jx_mm3 (jx_tp 150 rfl) rfl
set_option maxRecDepth 20000 in
theorem kc_X5_appendPoint : jx_mem (Cond.code yX5_appendPoint cX5_appendPoint 3 none) := jx_mm3 (jx_tp 151 rfl) rfl
set_option maxRecDepth 20000 in
theorem kX3_106 : jx_mem (Cond.methodLink RX3 106 yX3_readPrime) := jx_mm3 (jx_tp 153 rfl) rfl
set_option maxRecDepth 20000 in
theorem kim_X3_readPrime : jx_mem (Cond.instanceMethod yX3_readPrime) := jx_mm3 (jx_tp 155 rfl) rfl
set_option maxRecDepth 20000 in
theorem kc_X3_readPrime : jx_mem (Cond.code yX3_readPrime cX3_readPrime 1 (some .boolean)) := jx_mm3 (jx_tp 156 rfl) rfl
set_option maxRecDepth 20000 in
theorem kX3_121 : jx_mem (Cond.methodLinkNest RX3 121 yX9_isPrimeAllowed "BorderBasis") := jx_mm3 (jx_tp 157 rfl) rfl
set_option maxRecDepth 20000 in
theorem kst_X9_isPrimeAllowed : jx_mem (Cond.static yX9_isPrimeAllowed) := jx_mm3 (jx_tp 158 rfl) rfl
set_option maxRecDepth 20000 in
theorem kc_X9_isPrimeAllowed : jx_mem (Cond.code yX9_isPrimeAllowed cX9_isPrimeAllowed 2 (some .boolean)) := jx_mm3 (jx_tp 159 rfl) rfl
set_option maxRecDepth 20000 in
theorem kX3_48 : jx_mem (Cond.methodLink RX3 48 yX3_takeSymbol) := jx_mm3 (jx_tp 160 rfl) rfl
set_option maxRecDepth 20000 in
theorem kim_X3_takeSymbol : jx_mem (Cond.instanceMethod yX3_takeSymbol) := jx_mm3 (jx_tp 162 rfl) rfl
set_option maxRecDepth 20000 in
theorem kc_X3_takeSymbol : jx_mem (Cond.code yX3_takeSymbol cX3_takeSymbol 2 (some .boolean)) := jx_mm3 (jx_tp 163 rfl) rfl
set_option maxRecDepth 20000 in
theorem kX9_114 : jx_mem (Cond.methodLink RX9 114 yX5_copyFrom) := jx_mm3 (jx_tp 164 rfl) rfl
set_option maxRecDepth 20000 in
theorem kX9_120 : jx_mem (Cond.methodLink RX9 120 yJ7_fill_53178) := jx_mm3 (jx_tp 165 rfl) rfl
set_option maxRecDepth 20000 in
theorem kX9_126 : jx_mem (Cond.methodLink RX9 126 yX9_forgetDerived) := jx_mm3 (jx_tp 166 rfl) rfl
set_option maxRecDepth 20000 in
theorem kim_X9_forgetDerived : jx_mem (Cond.instanceMethod yX9_forgetDerived) := jx_mm3 (jx_tp 168 rfl) rfl
set_option maxRecDepth 20000 in
theorem kc_X9_forgetDerived : jx_mem (Cond.code yX9_forgetDerived cX9_forgetDerived 1 none) := jx_mm3 (jx_tp 169 rfl) rfl
set_option maxRecDepth 20000 in
theorem kX9_316 : jx_mem (Cond.methodLink RX9 316 yX8_forget) := jx_mm3 (jx_tp 170 rfl) rfl
set_option maxRecDepth 20000 in
theorem kim_X8_forget : jx_mem (Cond.instanceMethod yX8_forget) := jx_mm3 (jx_tp 171 rfl) rfl
set_option maxRecDepth 20000 in
theorem ksel_X8_forget : jx_mem (Cond.selects RX8 yX8_forget yX8_forget) := jx_mm3 (jx_tp 172 rfl) rfl
set_option maxRecDepth 20000 in
theorem kc_X8_forget : jx_mem (Cond.code yX8_forget cX8_forget 1 none) := jx_mm3 (jx_tp 173 rfl) rfl
set_option maxRecDepth 20000 in
theorem kL_124 : jx_mem (Cond.methodLink RL 124 yX9_reduce) := jx_mm3 (jx_tp 174 rfl) rfl
set_option maxRecDepth 20000 in
theorem kim_X9_reduce : jx_mem (Cond.instanceMethod yX9_reduce) := jx_mm3 (jx_tp 175 rfl) rfl
set_option maxRecDepth 20000 in
theorem ksel_X9_reduce : jx_mem (Cond.selects RX9 yX9_reduce yX9_reduce) := jx_mm3 (jx_tp 176 rfl) rfl
set_option maxRecDepth 20000 in
theorem kc_X9_reduce : jx_mem (Cond.code yX9_reduce cX9_reduce 4 (some .int)) := jx_mm3 (jx_tp 177 rfl) rfl
set_option maxRecDepth 20000 in
theorem kX9_135 : jx_mem (Cond.methodLink RX9 135 yX3_readPolynomial) := jx_mm3 (jx_tp 178 rfl) rfl
set_option maxRecDepth 20000 in
theorem kim_X3_readPolynomial : jx_mem (Cond.instanceMethod yX3_readPolynomial) := jx_mm3 (jx_tp 179 rfl) rfl
set_option maxRecDepth 20000 in
theorem ksel_X3_readPolynomial : jx_mem (Cond.selects RX3 yX3_readPolynomial yX3_readPolynomial) := jx_mm3 (jx_tp 180 rfl) rfl
set_option maxRecDepth 20000 in
theorem kc_X3_readPolynomial : jx_mem (Cond.code yX3_readPolynomial cX3_readPolynomial 4 (some .boolean)) := jx_mm3 (jx_tp 181 rfl) rfl
set_option maxRecDepth 20000 in
theorem kX3_52 : jx_mem (Cond.methodLink RX3 52 yJ7_fill_53178) := jx_mm3 (jx_tp 182 rfl) rfl
set_option maxRecDepth 20000 in
theorem kX9_142 : jx_mem (Cond.methodLink RX9 142 yX6_normalFormOf) := jx_mm3 (jx_tp 183 rfl) rfl
set_option maxRecDepth 20000 in
theorem kim_X6_normalFormOf : jx_mem (Cond.instanceMethod yX6_normalFormOf) := jx_mm3 (jx_tp 184 rfl) rfl
set_option maxRecDepth 20000 in
theorem ksel_X6_normalFormOf : jx_mem (Cond.selects RX6 yX6_normalFormOf yX6_normalFormOf) := jx_mm3 (jx_tp 185 rfl) rfl
set_option maxRecDepth 20000 in
theorem kc_X6_normalFormOf : jx_mem (Cond.code yX6_normalFormOf cX6_normalFormOf 6 none) := jx_mm3 (jx_tp 186 rfl) rfl
set_option maxRecDepth 20000 in
theorem kX6_58 : jx_mem (Cond.methodLink RX6 58 yX6_prepare) := jx_mm3 (jx_tp 187 rfl) rfl
set_option maxRecDepth 20000 in
theorem kim_X6_prepare : jx_mem (Cond.instanceMethod yX6_prepare) := jx_mm3 (jx_tp 188 rfl) rfl
set_option maxRecDepth 20000 in
theorem ksel_X6_prepare : jx_mem (Cond.selects RX6 yX6_prepare yX6_prepare) := jx_mm3 (jx_tp 189 rfl) rfl
set_option maxRecDepth 20000 in
theorem kc_X6_prepare : jx_mem (Cond.code yX6_prepare cX6_prepare 1 none) := jx_mm3 (jx_tp 190 rfl) rfl
set_option maxRecDepth 20000 in
theorem kX6_83 : jx_mem (Cond.methodLink RX6 83 yX6_fillTable) := jx_mm3 (jx_tp 191 rfl) rfl
set_option maxRecDepth 20000 in
theorem kim_X6_fillTable : jx_mem (Cond.instanceMethod yX6_fillTable) := jx_mm3 (jx_tp 193 rfl) rfl
set_option maxRecDepth 20000 in
theorem kc_X6_fillTable : jx_mem (Cond.code yX6_fillTable cX6_fillTable 10 none) := jx_mm3 (jx_tp 194 rfl) rfl
set_option maxRecDepth 20000 in
theorem kX6_102 : jx_mem (Cond.methodLink RX6 102 yX2_clear) := jx_mm3 (jx_tp 195 rfl) rfl
set_option maxRecDepth 20000 in
theorem kim_X2_clear : jx_mem (Cond.instanceMethod yX2_clear) := jx_mm3 (jx_tp 196 rfl) rfl
set_option maxRecDepth 20000 in
theorem ksel_X2_clear : jx_mem (Cond.selects RX2 yX2_clear yX2_clear) := jx_mm3 (jx_tp 197 rfl) rfl
set_option maxRecDepth 20000 in
theorem kc_X2_clear : jx_mem (Cond.code yX2_clear cX2_clear 3 none) := jx_mm3 (jx_tp 198 rfl) rfl
set_option maxRecDepth 20000 in
theorem kX2_25 : jx_mem (Cond.methodLink RX2 25 Lib.Math.min.name) := jx_mm3 (jx_tp 199 rfl) rfl
set_option maxRecDepth 20000 in
theorem kX2_37 : jx_mem (Cond.methodLink RX2 37 yJ7_fill_53178) := jx_mm3 (jx_tp 200 rfl) rfl
set_option maxRecDepth 20000 in
theorem kX6_111 : jx_mem (Cond.methodLink RX6 111 yX5_numberOf) := jx_mm3 (jx_tp 201 rfl) rfl
set_option maxRecDepth 20000 in
theorem kX6_114 : jx_mem (Cond.methodLink RX6 114 yX2_put) := jx_mm3 (jx_tp 202 rfl) rfl
set_option maxRecDepth 20000 in
theorem kim_X2_put : jx_mem (Cond.instanceMethod yX2_put) := jx_mm3 (jx_tp 203 rfl) rfl
set_option maxRecDepth 20000 in
theorem ksel_X2_put : jx_mem (Cond.selects RX2 yX2_put yX2_put) := jx_mm3 (jx_tp 204 rfl) rfl
set_option maxRecDepth 20000 in
theorem kc_X2_put : jx_mem (Cond.code yX2_put cX2_put 4 none) := jx_mm3 (jx_tp 205 rfl) rfl
set_option maxRecDepth 20000 in
theorem kX2_43 : jx_mem (Cond.methodLink RX2 43 yX2_has) := jx_mm3 (jx_tp 206 rfl) rfl
set_option maxRecDepth 20000 in
theorem kim_X2_has : jx_mem (Cond.instanceMethod yX2_has) := jx_mm3 (jx_tp 207 rfl) rfl
set_option maxRecDepth 20000 in
theorem ksel_X2_has : jx_mem (Cond.selects RX2 yX2_has yX2_has) := jx_mm3 (jx_tp 208 rfl) rfl
set_option maxRecDepth 20000 in
theorem kc_X2_has : jx_mem (Cond.code yX2_has cX2_has 3 (some .boolean)) := jx_mm3 (jx_tp 209 rfl) rfl
set_option maxRecDepth 20000 in
theorem kX6_118 : jx_mem (Cond.methodLink RX6 118 yX5_borderNumberOf) := jx_mm3 (jx_tp 210 rfl) rfl
set_option maxRecDepth 20000 in
theorem kX6_121 : jx_mem (Cond.methodLink RX6 121 yX5_coefficient) := jx_mm3 (jx_tp 211 rfl) rfl
set_option maxRecDepth 20000 in
theorem kX6_92 : jx_mem (Cond.methodLink RX6 92 yX2_becomeProduct) := jx_mm3 (jx_tp 212 rfl) rfl
set_option maxRecDepth 20000 in
theorem kim_X2_becomeProduct : jx_mem (Cond.instanceMethod yX2_becomeProduct) := jx_mm3 (jx_tp 213 rfl) rfl
set_option maxRecDepth 20000 in
theorem ksel_X2_becomeProduct : jx_mem (Cond.selects RX2 yX2_becomeProduct yX2_becomeProduct) := jx_mm3 (jx_tp 214 rfl) rfl
set_option maxRecDepth 20000 in
theorem kc_X2_becomeProduct : jx_mem (Cond.code yX2_becomeProduct cX2_becomeProduct 9 none) := jx_mm3 (jx_tp 215 rfl) rfl
set_option maxRecDepth 20000 in
theorem kX2_47 : jx_mem (Cond.methodLink RX2 47 yX2_clear) := jx_mm3 (jx_tp 216 rfl) rfl
set_option maxRecDepth 20000 in
theorem kX2_62 : jx_mem (Cond.methodLinkNest RX2 62 yX9_residue "BorderBasis") := jx_mm3 (jx_tp 217 rfl) rfl
set_option maxRecDepth 20000 in
theorem kX6_96 : jx_mem (Cond.methodLink RX6 96 yX6_compareProducts) := jx_mm3 (jx_tp 218 rfl) rfl
set_option maxRecDepth 20000 in
theorem kim_X6_compareProducts : jx_mem (Cond.instanceMethod yX6_compareProducts) := jx_mm3 (jx_tp 220 rfl) rfl
set_option maxRecDepth 20000 in
theorem kc_X6_compareProducts : jx_mem (Cond.code yX6_compareProducts cX6_compareProducts 3 none) := jx_mm3 (jx_tp 221 rfl) rfl
set_option maxRecDepth 20000 in
theorem kX6_65 : jx_mem (Cond.methodLink RX6 65 yX2_at) := jx_mm3 (jx_tp 222 rfl) rfl
set_option maxRecDepth 20000 in
theorem kim_X2_at : jx_mem (Cond.instanceMethod yX2_at) := jx_mm3 (jx_tp 223 rfl) rfl
set_option maxRecDepth 20000 in
theorem ksel_X2_at : jx_mem (Cond.selects RX2 yX2_at yX2_at) := jx_mm3 (jx_tp 224 rfl) rfl
set_option maxRecDepth 20000 in
theorem kc_X2_at : jx_mem (Cond.code yX2_at cX2_at 3 (some .int)) := jx_mm3 (jx_tp 225 rfl) rfl
set_option maxRecDepth 20000 in
theorem kX6_149 : jx_mem (Cond.methodLink RX6 149 yX6_listFormsY) := jx_mm3 (jx_tp 226 rfl) rfl
set_option maxRecDepth 20000 in
theorem kim_X6_listFormsY : jx_mem (Cond.instanceMethod yX6_listFormsY) := jx_mm3 (jx_tp 228 rfl) rfl
set_option maxRecDepth 20000 in
theorem kc_X6_listFormsY : jx_mem (Cond.code yX6_listFormsY cX6_listFormsY 3 none) := jx_mm3 (jx_tp 229 rfl) rfl
set_option maxRecDepth 20000 in
theorem kX6_156 : jx_mem (Cond.methodLink RX6 156 yX6_normalFormOfMonomial) := jx_mm3 (jx_tp 230 rfl) rfl
set_option maxRecDepth 20000 in
theorem kim_X6_normalFormOfMonomial : jx_mem (Cond.instanceMethod yX6_normalFormOfMonomial) := jx_mm3 (jx_tp 231 rfl) rfl
set_option maxRecDepth 20000 in
theorem ksel_X6_normalFormOfMonomial : jx_mem (Cond.selects RX6 yX6_normalFormOfMonomial yX6_normalFormOfMonomial) := jx_mm3 (jx_tp 232 rfl) rfl
set_option maxRecDepth 20000 in
theorem kc_X6_normalFormOfMonomial : jx_mem (Cond.code yX6_normalFormOfMonomial cX6_normalFormOfMonomial 5 none) := jx_mm3 (jx_tp 233 rfl) rfl
set_option maxRecDepth 20000 in
theorem kX6_139 : jx_mem (Cond.methodLink RX6 139 yJ7_fill_53178) := jx_mm3 (jx_tp 234 rfl) rfl
set_option maxRecDepth 20000 in
theorem kX6_145 : jx_mem (Cond.methodLink RX6 145 yX2_applyTo) := jx_mm3 (jx_tp 235 rfl) rfl
set_option maxRecDepth 20000 in
theorem kim_X2_applyTo : jx_mem (Cond.instanceMethod yX2_applyTo) := jx_mm3 (jx_tp 236 rfl) rfl
set_option maxRecDepth 20000 in
theorem ksel_X2_applyTo : jx_mem (Cond.selects RX2 yX2_applyTo yX2_applyTo) := jx_mm3 (jx_tp 237 rfl) rfl
set_option maxRecDepth 20000 in
theorem kc_X2_applyTo : jx_mem (Cond.code yX2_applyTo cX2_applyTo 8 none) := jx_mm3 (jx_tp 238 rfl) rfl
set_option maxRecDepth 20000 in
theorem kX2_65 : jx_mem (Cond.methodLink RX2 65 arraycopyName) := jx_mm3 (jx_tp 239 rfl) rfl
set_option maxRecDepth 20000 in
theorem kX6_152 : jx_mem (Cond.methodLink RX6 152 yX6_addForm) := jx_mm4 (jx_tp 0 rfl) rfl
set_option maxRecDepth 20000 in
theorem kim_X6_addForm : jx_mem (Cond.instanceMethod yX6_addForm) := jx_mm4 (jx_tp 2 rfl) rfl
set_option maxRecDepth 20000 in
theorem kc_X6_addForm : jx_mem (Cond.code yX6_addForm cX6_addForm 5 none) := jx_mm4 (jx_tp 3 rfl) rfl
set_option maxRecDepth 20000 in
theorem kX6_160 : jx_mem (Cond.methodLinkNest RX6 160 yX9_residue "BorderBasis") := jx_mm4 (jx_tp 4 rfl) rfl
set_option maxRecDepth 20000 in
theorem kL_128 : jx_mem (Cond.methodLink RL 128 yX9_errorCode) := jx_mm4 (jx_tp 5 rfl) rfl
set_option maxRecDepth 20000 in
theorem kim_X9_errorCode : jx_mem (Cond.instanceMethod yX9_errorCode) := jx_mm4 (jx_tp 6 rfl) rfl
set_option maxRecDepth 20000 in
theorem ksel_X9_errorCode : jx_mem (Cond.selects RX9 yX9_errorCode yX9_errorCode) := jx_mm4 (jx_tp 7 rfl) rfl
set_option maxRecDepth 20000 in
theorem kc_X9_errorCode : jx_mem (Cond.code yX9_errorCode cX9_errorCode 1 (some .int)) := jx_mm4 (jx_tp 8 rfl) rfl
set_option maxRecDepth 20000 in
theorem kL_132 : jx_mem (Cond.methodLink RL 132 yX9_errorPosition) := jx_mm4 (jx_tp 9 rfl) rfl
set_option maxRecDepth 20000 in
theorem kim_X9_errorPosition : jx_mem (Cond.instanceMethod yX9_errorPosition) := jx_mm4 (jx_tp 10 rfl) rfl
set_option maxRecDepth 20000 in
theorem ksel_X9_errorPosition : jx_mem (Cond.selects RX9 yX9_errorPosition yX9_errorPosition) := jx_mm4 (jx_tp 11 rfl) rfl
set_option maxRecDepth 20000 in
theorem kc_X9_errorPosition : jx_mem (Cond.code yX9_errorPosition cX9_errorPosition 1 (some .int)) := jx_mm4 (jx_tp 12 rfl) rfl
set_option maxRecDepth 20000 in
theorem kL_161 : jx_mem (Cond.methodLink RL 161 yX9_place) := jx_mm4 (jx_tp 13 rfl) rfl
set_option maxRecDepth 20000 in
theorem kim_X9_place : jx_mem (Cond.instanceMethod yX9_place) := jx_mm4 (jx_tp 14 rfl) rfl
set_option maxRecDepth 20000 in
theorem ksel_X9_place : jx_mem (Cond.selects RX9 yX9_place yX9_place) := jx_mm4 (jx_tp 15 rfl) rfl
set_option maxRecDepth 20000 in
theorem kc_X9_place : jx_mem (Cond.code yX9_place cX9_place 5 (some .int)) := jx_mm4 (jx_tp 16 rfl) rfl
set_option maxRecDepth 20000 in
theorem kX9_187 : jx_mem (Cond.methodLink RX9 187 yX5_numberOf) := jx_mm4 (jx_tp 17 rfl) rfl
set_option maxRecDepth 20000 in
theorem kX9_205 : jx_mem (Cond.methodLink RX9 205 yX5_borderNumberOf) := jx_mm4 (jx_tp 18 rfl) rfl
set_option maxRecDepth 20000 in
theorem kL_178 : jx_mem (Cond.methodLink RL 178 yX9_commutes) := jx_mm4 (jx_tp 19 rfl) rfl
set_option maxRecDepth 20000 in
theorem kim_X9_commutes : jx_mem (Cond.instanceMethod yX9_commutes) := jx_mm4 (jx_tp 20 rfl) rfl
set_option maxRecDepth 20000 in
theorem ksel_X9_commutes : jx_mem (Cond.selects RX9 yX9_commutes yX9_commutes) := jx_mm4 (jx_tp 21 rfl) rfl
set_option maxRecDepth 20000 in
theorem kc_X9_commutes : jx_mem (Cond.code yX9_commutes cX9_commutes 1 (some .boolean)) := jx_mm4 (jx_tp 22 rfl) rfl
set_option maxRecDepth 20000 in
theorem kX9_229 : jx_mem (Cond.methodLink RX9 229 yX6_differences) := jx_mm4 (jx_tp 23 rfl) rfl
set_option maxRecDepth 20000 in
theorem kim_X6_differences : jx_mem (Cond.instanceMethod yX6_differences) := jx_mm4 (jx_tp 24 rfl) rfl
set_option maxRecDepth 20000 in
theorem ksel_X6_differences : jx_mem (Cond.selects RX6 yX6_differences yX6_differences) := jx_mm4 (jx_tp 25 rfl) rfl
set_option maxRecDepth 20000 in
theorem kc_X6_differences : jx_mem (Cond.code yX6_differences cX6_differences 1 (some .int)) := jx_mm4 (jx_tp 26 rfl) rfl
set_option maxRecDepth 20000 in
theorem kL_207 : jx_mem (Cond.methodLink RL 207 yX9_share) := jx_mm4 (jx_tp 27 rfl) rfl
set_option maxRecDepth 20000 in
theorem kim_X9_share : jx_mem (Cond.instanceMethod yX9_share) := jx_mm4 (jx_tp 28 rfl) rfl
set_option maxRecDepth 20000 in
theorem ksel_X9_share : jx_mem (Cond.selects RX9 yX9_share yX9_share) := jx_mm4 (jx_tp 29 rfl) rfl
set_option maxRecDepth 20000 in
theorem kc_X9_share : jx_mem (Cond.code yX9_share cX9_share 1 (some .double)) := jx_mm4 (jx_tp 30 rfl) rfl
set_option maxRecDepth 20000 in
theorem kX9_258 : jx_mem (Cond.methodLink RX9 258 yX8_allMultiplicities) := jx_mm4 (jx_tp 32 rfl) rfl
set_option maxRecDepth 20000 in
theorem kim_X8_allMultiplicities : jx_mem (Cond.instanceMethod yX8_allMultiplicities) := jx_mm4 (jx_tp 33 rfl) rfl
set_option maxRecDepth 20000 in
theorem ksel_X8_allMultiplicities : jx_mem (Cond.selects RX8 yX8_allMultiplicities yX8_allMultiplicities) := jx_mm4 (jx_tp 34 rfl) rfl
set_option maxRecDepth 20000 in
theorem kc_X8_allMultiplicities : jx_mem (Cond.code yX8_allMultiplicities cX8_allMultiplicities 3 (some .int)) := jx_mm4 (jx_tp 35 rfl) rfl
set_option maxRecDepth 20000 in
theorem kX8_67 : jx_mem (Cond.methodLink RX8 67 yX8_find) := jx_mm4 (jx_tp 36 rfl) rfl
set_option maxRecDepth 20000 in
theorem kim_X8_find : jx_mem (Cond.instanceMethod yX8_find) := jx_mm4 (jx_tp 38 rfl) rfl
set_option maxRecDepth 20000 in
theorem kc_X8_find : jx_mem (Cond.code yX8_find cX8_find 3 none) := jx_mm4 (jx_tp 39 rfl) rfl
set_option maxRecDepth 20000 in
theorem kX8_73 : jx_mem (Cond.methodLink RX8 73 yX6_prepare) := jx_mm4 (jx_tp 40 rfl) rfl
set_option maxRecDepth 20000 in
theorem kX8_78 : jx_mem (Cond.methodLink RX8 78 yX6_markRoots) := jx_mm4 (jx_tp 41 rfl) rfl
set_option maxRecDepth 20000 in
theorem kim_X6_markRoots : jx_mem (Cond.instanceMethod yX6_markRoots) := jx_mm4 (jx_tp 42 rfl) rfl
set_option maxRecDepth 20000 in
theorem ksel_X6_markRoots : jx_mem (Cond.selects RX6 yX6_markRoots yX6_markRoots) := jx_mm4 (jx_tp 43 rfl) rfl
set_option maxRecDepth 20000 in
theorem kc_X6_markRoots : jx_mem (Cond.code yX6_markRoots cX6_markRoots 6 none) := jx_mm4 (jx_tp 44 rfl) rfl
set_option maxRecDepth 20000 in
theorem kX6_61 : jx_mem (Cond.methodLink RX6 61 yX6_ofVariable) := jx_mm4 (jx_tp 45 rfl) rfl
set_option maxRecDepth 20000 in
theorem kim_X6_ofVariable : jx_mem (Cond.instanceMethod yX6_ofVariable) := jx_mm4 (jx_tp 46 rfl) rfl
set_option maxRecDepth 20000 in
theorem ksel_X6_ofVariable : jx_mem (Cond.selects RX6 yX6_ofVariable yX6_ofVariable) := jx_mm4 (jx_tp 47 rfl) rfl
set_option maxRecDepth 20000 in
theorem kc_X6_ofVariable : jx_mem (Cond.code yX6_ofVariable cX6_ofVariable 2 (some (.object "BorderBasis$Matrix"))) := jx_mm4 (jx_tp 48 rfl) rfl
set_option maxRecDepth 20000 in
theorem kX6_163 : jx_mem (Cond.methodLink RX6 163 yX2_reduceRows) := jx_mm4 (jx_tp 49 rfl) rfl
set_option maxRecDepth 20000 in
theorem kim_X2_reduceRows : jx_mem (Cond.instanceMethod yX2_reduceRows) := jx_mm4 (jx_tp 50 rfl) rfl
set_option maxRecDepth 20000 in
theorem ksel_X2_reduceRows : jx_mem (Cond.selects RX2 yX2_reduceRows yX2_reduceRows) := jx_mm4 (jx_tp 51 rfl) rfl
set_option maxRecDepth 20000 in
theorem kc_X2_reduceRows : jx_mem (Cond.code yX2_reduceRows cX2_reduceRows 5 (some .int)) := jx_mm4 (jx_tp 52 rfl) rfl
set_option maxRecDepth 20000 in
theorem kX2_82 : jx_mem (Cond.methodLink RX2 82 yX2_pivotRow) := jx_mm4 (jx_tp 53 rfl) rfl
set_option maxRecDepth 20000 in
theorem kim_X2_pivotRow : jx_mem (Cond.instanceMethod yX2_pivotRow) := jx_mm4 (jx_tp 55 rfl) rfl
set_option maxRecDepth 20000 in
theorem kc_X2_pivotRow : jx_mem (Cond.code yX2_pivotRow cX2_pivotRow 4 (some .int)) := jx_mm4 (jx_tp 56 rfl) rfl
set_option maxRecDepth 20000 in
theorem kX2_59 : jx_mem (Cond.methodLink RX2 59 yX2_at) := jx_mm4 (jx_tp 57 rfl) rfl
set_option maxRecDepth 20000 in
theorem kX2_85 : jx_mem (Cond.methodLink RX2 85 yX2_swapRows) := jx_mm4 (jx_tp 58 rfl) rfl
set_option maxRecDepth 20000 in
theorem kim_X2_swapRows : jx_mem (Cond.instanceMethod yX2_swapRows) := jx_mm4 (jx_tp 60 rfl) rfl
set_option maxRecDepth 20000 in
theorem kc_X2_swapRows : jx_mem (Cond.code yX2_swapRows cX2_swapRows 5 none) := jx_mm4 (jx_tp 61 rfl) rfl
set_option maxRecDepth 20000 in
theorem kX2_51 : jx_mem (Cond.methodLink RX2 51 yX2_put) := jx_mm4 (jx_tp 62 rfl) rfl
set_option maxRecDepth 20000 in
theorem kX2_88 : jx_mem (Cond.methodLinkNest RX2 88 yX9_inverse "BorderBasis") := jx_mm4 (jx_tp 63 rfl) rfl
set_option maxRecDepth 20000 in
theorem kst_X9_inverse : jx_mem (Cond.static yX9_inverse) := jx_mm4 (jx_tp 64 rfl) rfl
set_option maxRecDepth 20000 in
theorem kc_X9_inverse : jx_mem (Cond.code yX9_inverse cX9_inverse 5 (some .int)) := jx_mm4 (jx_tp 65 rfl) rfl
set_option maxRecDepth 20000 in
theorem kX9_319 : jx_mem (Cond.methodLink RX9 319 yX9_residue) := jx_mm4 (jx_tp 66 rfl) rfl
set_option maxRecDepth 20000 in
theorem kX2_91 : jx_mem (Cond.methodLink RX2 91 yX2_scaleRow) := jx_mm4 (jx_tp 67 rfl) rfl
set_option maxRecDepth 20000 in
theorem kim_X2_scaleRow : jx_mem (Cond.instanceMethod yX2_scaleRow) := jx_mm4 (jx_tp 69 rfl) rfl
set_option maxRecDepth 20000 in
theorem kc_X2_scaleRow : jx_mem (Cond.code yX2_scaleRow cX2_scaleRow 5 none) := jx_mm4 (jx_tp 70 rfl) rfl
set_option maxRecDepth 20000 in
theorem kX2_94 : jx_mem (Cond.methodLink RX2 94 yX2_clearColumn) := jx_mm4 (jx_tp 71 rfl) rfl
set_option maxRecDepth 20000 in
theorem kim_X2_clearColumn : jx_mem (Cond.instanceMethod yX2_clearColumn) := jx_mm4 (jx_tp 73 rfl) rfl
set_option maxRecDepth 20000 in
theorem kc_X2_clearColumn : jx_mem (Cond.code yX2_clearColumn cX2_clearColumn 6 none) := jx_mm4 (jx_tp 74 rfl) rfl
set_option maxRecDepth 20000 in
theorem kX2_97 : jx_mem (Cond.methodLink RX2 97 yX2_subtractRow) := jx_mm4 (jx_tp 75 rfl) rfl
set_option maxRecDepth 20000 in
theorem kim_X2_subtractRow : jx_mem (Cond.instanceMethod yX2_subtractRow) := jx_mm4 (jx_tp 77 rfl) rfl
set_option maxRecDepth 20000 in
theorem kc_X2_subtractRow : jx_mem (Cond.code yX2_subtractRow cX2_subtractRow 8 none) := jx_mm4 (jx_tp 78 rfl) rfl
set_option maxRecDepth 20000 in
theorem kX2_101 : jx_mem (Cond.methodLinkNest RX2 101 yX9_isOutside "BorderBasis") := jx_mm4 (jx_tp 79 rfl) rfl
set_option maxRecDepth 20000 in
theorem kX6_170 : jx_mem (Cond.methodLink RX6 170 yX6_isRoot) := jx_mm4 (jx_tp 80 rfl) rfl
set_option maxRecDepth 20000 in
theorem kim_X6_isRoot : jx_mem (Cond.instanceMethod yX6_isRoot) := jx_mm4 (jx_tp 82 rfl) rfl
set_option maxRecDepth 20000 in
theorem kc_X6_isRoot : jx_mem (Cond.code yX6_isRoot cX6_isRoot 5 (some .boolean)) := jx_mm4 (jx_tp 83 rfl) rfl
set_option maxRecDepth 20000 in
theorem kX8_87 : jx_mem (Cond.methodLink RX8 87 yX8_tryPoint) := jx_mm4 (jx_tp 84 rfl) rfl
set_option maxRecDepth 20000 in
theorem kim_X8_tryPoint : jx_mem (Cond.instanceMethod yX8_tryPoint) := jx_mm4 (jx_tp 86 rfl) rfl
set_option maxRecDepth 20000 in
theorem kc_X8_tryPoint : jx_mem (Cond.code yX8_tryPoint cX8_tryPoint 3 none) := jx_mm4 (jx_tp 87 rfl) rfl
set_option maxRecDepth 20000 in
theorem kX8_96 : jx_mem (Cond.methodLink RX8 96 yX4_moveTo) := jx_mm4 (jx_tp 88 rfl) rfl
set_option maxRecDepth 20000 in
theorem kim_X4_moveTo : jx_mem (Cond.instanceMethod yX4_moveTo) := jx_mm4 (jx_tp 89 rfl) rfl
set_option maxRecDepth 20000 in
theorem ksel_X4_moveTo : jx_mem (Cond.selects RX4 yX4_moveTo yX4_moveTo) := jx_mm4 (jx_tp 90 rfl) rfl
set_option maxRecDepth 20000 in
theorem kc_X4_moveTo : jx_mem (Cond.code yX4_moveTo cX4_moveTo 5 none) := jx_mm4 (jx_tp 91 rfl) rfl
set_option maxRecDepth 20000 in
theorem kX4_22 : jx_mem (Cond.methodLinkNest RX4 22 yX9_residue "BorderBasis") := jx_mm4 (jx_tp 92 rfl) rfl
set_option maxRecDepth 20000 in
theorem kX8_102 : jx_mem (Cond.methodLink RX8 102 yX4_isZeroOf) := jx_mm4 (jx_tp 93 rfl) rfl
set_option maxRecDepth 20000 in
theorem kim_X4_isZeroOf : jx_mem (Cond.instanceMethod yX4_isZeroOf) := jx_mm4 (jx_tp 94 rfl) rfl
set_option maxRecDepth 20000 in
theorem ksel_X4_isZeroOf : jx_mem (Cond.selects RX4 yX4_isZeroOf yX4_isZeroOf) := jx_mm4 (jx_tp 95 rfl) rfl
set_option maxRecDepth 20000 in
theorem kc_X4_isZeroOf : jx_mem (Cond.code yX4_isZeroOf cX4_isZeroOf 3 (some .boolean)) := jx_mm4 (jx_tp 96 rfl) rfl
set_option maxRecDepth 20000 in
theorem kX4_56 : jx_mem (Cond.methodLink RX4 56 yX4_valueOfRule) := jx_mm4 (jx_tp 97 rfl) rfl
set_option maxRecDepth 20000 in
theorem kim_X4_valueOfRule : jx_mem (Cond.instanceMethod yX4_valueOfRule) := jx_mm4 (jx_tp 98 rfl) rfl
set_option maxRecDepth 20000 in
theorem ksel_X4_valueOfRule : jx_mem (Cond.selects RX4 yX4_valueOfRule yX4_valueOfRule) := jx_mm4 (jx_tp 99 rfl) rfl
set_option maxRecDepth 20000 in
theorem kc_X4_valueOfRule : jx_mem (Cond.code yX4_valueOfRule cX4_valueOfRule 6 (some .int)) := jx_mm4 (jx_tp 100 rfl) rfl
set_option maxRecDepth 20000 in
theorem kX4_26 : jx_mem (Cond.methodLinkNest RX4 26 yX9_isOutside "BorderBasis") := jx_mm4 (jx_tp 101 rfl) rfl
set_option maxRecDepth 20000 in
theorem kX4_38 : jx_mem (Cond.methodLink RX4 38 yX5_coefficient) := jx_mm4 (jx_tp 102 rfl) rfl
set_option maxRecDepth 20000 in
theorem kX4_47 : jx_mem (Cond.methodLink RX4 47 yX4_valueOfMonomial) := jx_mm4 (jx_tp 103 rfl) rfl
set_option maxRecDepth 20000 in
theorem kim_X4_valueOfMonomial : jx_mem (Cond.instanceMethod yX4_valueOfMonomial) := jx_mm4 (jx_tp 104 rfl) rfl
set_option maxRecDepth 20000 in
theorem ksel_X4_valueOfMonomial : jx_mem (Cond.selects RX4 yX4_valueOfMonomial yX4_valueOfMonomial) := jx_mm4 (jx_tp 105 rfl) rfl
set_option maxRecDepth 20000 in
theorem kc_X4_valueOfMonomial : jx_mem (Cond.code yX4_valueOfMonomial cX4_valueOfMonomial 3 (some .int)) := jx_mm4 (jx_tp 106 rfl) rfl
set_option maxRecDepth 20000 in
theorem kX8_90 : jx_mem (Cond.methodLink RX8 90 yJ7_fill_53178) := jx_mm4 (jx_tp 107 rfl) rfl
set_option maxRecDepth 20000 in
theorem kX8_128 : jx_mem (Cond.methodLink RX8 128 yX8_multiplicityOf) := jx_mm4 (jx_tp 108 rfl) rfl
set_option maxRecDepth 20000 in
theorem kim_X8_multiplicityOf : jx_mem (Cond.instanceMethod yX8_multiplicityOf) := jx_mm4 (jx_tp 109 rfl) rfl
set_option maxRecDepth 20000 in
theorem ksel_X8_multiplicityOf : jx_mem (Cond.selects RX8 yX8_multiplicityOf yX8_multiplicityOf) := jx_mm4 (jx_tp 110 rfl) rfl
set_option maxRecDepth 20000 in
theorem kc_X8_multiplicityOf : jx_mem (Cond.code yX8_multiplicityOf cX8_multiplicityOf 3 (some .int)) := jx_mm4 (jx_tp 111 rfl) rfl
set_option maxRecDepth 20000 in
theorem kX8_106 : jx_mem (Cond.methodLinkNest RX8 106 yX9_isOutside "BorderBasis") := jx_mm4 (jx_tp 112 rfl) rfl
set_option maxRecDepth 20000 in
theorem kX8_113 : jx_mem (Cond.methodLink RX8 113 yX2_clear) := jx_mm4 (jx_tp 113 rfl) rfl
set_option maxRecDepth 20000 in
theorem kX8_116 : jx_mem (Cond.methodLink RX8 116 yX6_raise) := jx_mm4 (jx_tp 114 rfl) rfl
set_option maxRecDepth 20000 in
theorem kim_X6_raise : jx_mem (Cond.instanceMethod yX6_raise) := jx_mm4 (jx_tp 115 rfl) rfl
set_option maxRecDepth 20000 in
theorem ksel_X6_raise : jx_mem (Cond.selects RX6 yX6_raise yX6_raise) := jx_mm4 (jx_tp 116 rfl) rfl
set_option maxRecDepth 20000 in
theorem kc_X6_raise : jx_mem (Cond.code yX6_raise cX6_raise 5 none) := jx_mm4 (jx_tp 117 rfl) rfl
set_option maxRecDepth 20000 in
theorem kX6_132 : jx_mem (Cond.methodLink RX6 132 yX2_becomeShifted) := jx_mm4 (jx_tp 118 rfl) rfl
set_option maxRecDepth 20000 in
theorem kim_X2_becomeShifted : jx_mem (Cond.instanceMethod yX2_becomeShifted) := jx_mm4 (jx_tp 119 rfl) rfl
set_option maxRecDepth 20000 in
theorem ksel_X2_becomeShifted : jx_mem (Cond.selects RX2 yX2_becomeShifted yX2_becomeShifted) := jx_mm4 (jx_tp 120 rfl) rfl
set_option maxRecDepth 20000 in
theorem kc_X2_becomeShifted : jx_mem (Cond.code yX2_becomeShifted cX2_becomeShifted 5 none) := jx_mm4 (jx_tp 121 rfl) rfl
set_option maxRecDepth 20000 in
theorem kX2_55 : jx_mem (Cond.methodLink RX2 55 yX2_copyRows) := jx_mm4 (jx_tp 122 rfl) rfl
set_option maxRecDepth 20000 in
theorem kim_X2_copyRows : jx_mem (Cond.instanceMethod yX2_copyRows) := jx_mm4 (jx_tp 123 rfl) rfl
set_option maxRecDepth 20000 in
theorem ksel_X2_copyRows : jx_mem (Cond.selects RX2 yX2_copyRows yX2_copyRows) := jx_mm4 (jx_tp 124 rfl) rfl
set_option maxRecDepth 20000 in
theorem kc_X2_copyRows : jx_mem (Cond.code yX2_copyRows cX2_copyRows 6 none) := jx_mm4 (jx_tp 125 rfl) rfl
set_option maxRecDepth 20000 in
theorem kX6_135 : jx_mem (Cond.methodLink RX6 135 yX2_becomePower) := jx_mm4 (jx_tp 126 rfl) rfl
set_option maxRecDepth 20000 in
theorem kim_X2_becomePower : jx_mem (Cond.instanceMethod yX2_becomePower) := jx_mm4 (jx_tp 127 rfl) rfl
set_option maxRecDepth 20000 in
theorem ksel_X2_becomePower : jx_mem (Cond.selects RX2 yX2_becomePower yX2_becomePower) := jx_mm4 (jx_tp 128 rfl) rfl
set_option maxRecDepth 20000 in
theorem kc_X2_becomePower : jx_mem (Cond.code yX2_becomePower cX2_becomePower 6 none) := jx_mm4 (jx_tp 129 rfl) rfl
set_option maxRecDepth 20000 in
theorem kX2_71 : jx_mem (Cond.methodLink RX2 71 yX2_becomeIdentity) := jx_mm4 (jx_tp 130 rfl) rfl
set_option maxRecDepth 20000 in
theorem kim_X2_becomeIdentity : jx_mem (Cond.instanceMethod yX2_becomeIdentity) := jx_mm4 (jx_tp 131 rfl) rfl
set_option maxRecDepth 20000 in
theorem ksel_X2_becomeIdentity : jx_mem (Cond.selects RX2 yX2_becomeIdentity yX2_becomeIdentity) := jx_mm4 (jx_tp 132 rfl) rfl
set_option maxRecDepth 20000 in
theorem kc_X2_becomeIdentity : jx_mem (Cond.code yX2_becomeIdentity cX2_becomeIdentity 3 none) := jx_mm4 (jx_tp 133 rfl) rfl
set_option maxRecDepth 20000 in
theorem kX2_75 : jx_mem (Cond.methodLink RX2 75 yX2_becomeProduct) := jx_mm4 (jx_tp 134 rfl) rfl
set_option maxRecDepth 20000 in
theorem kX8_120 : jx_mem (Cond.methodLink RX8 120 yX2_copyRows) := jx_mm4 (jx_tp 135 rfl) rfl
set_option maxRecDepth 20000 in
theorem kX8_124 : jx_mem (Cond.methodLink RX8 124 yX2_reduceRows) := jx_mm4 (jx_tp 136 rfl) rfl
set_option maxRecDepth 20000 in
theorem kL_225 : jx_mem (Cond.methodLink RL 225 yX9_misfits) := jx_mm4 (jx_tp 137 rfl) rfl
set_option maxRecDepth 20000 in
theorem kim_X9_misfits : jx_mem (Cond.instanceMethod yX9_misfits) := jx_mm4 (jx_tp 138 rfl) rfl
set_option maxRecDepth 20000 in
theorem ksel_X9_misfits : jx_mem (Cond.selects RX9 yX9_misfits yX9_misfits) := jx_mm4 (jx_tp 139 rfl) rfl
set_option maxRecDepth 20000 in
theorem kc_X9_misfits : jx_mem (Cond.code yX9_misfits cX9_misfits 1 (some .int)) := jx_mm4 (jx_tp 140 rfl) rfl
set_option maxRecDepth 20000 in
theorem kX9_295 : jx_mem (Cond.methodLink RX9 295 yX0_fitPoints) := jx_mm4 (jx_tp 141 rfl) rfl
set_option maxRecDepth 20000 in
theorem kim_X0_fitPoints : jx_mem (Cond.instanceMethod yX0_fitPoints) := jx_mm4 (jx_tp 142 rfl) rfl
set_option maxRecDepth 20000 in
theorem ksel_X0_fitPoints : jx_mem (Cond.selects RX0 yX0_fitPoints yX0_fitPoints) := jx_mm4 (jx_tp 143 rfl) rfl
set_option maxRecDepth 20000 in
theorem kc_X0_fitPoints : jx_mem (Cond.code yX0_fitPoints cX0_fitPoints 7 none) := jx_mm4 (jx_tp 144 rfl) rfl
set_option maxRecDepth 20000 in
theorem kX0_24 : jx_mem (Cond.methodLink RX0 24 yX0_fillValues) := jx_mm4 (jx_tp 145 rfl) rfl
set_option maxRecDepth 20000 in
theorem kim_X0_fillValues : jx_mem (Cond.instanceMethod yX0_fillValues) := jx_mm4 (jx_tp 147 rfl) rfl
set_option maxRecDepth 20000 in
theorem kc_X0_fillValues : jx_mem (Cond.code yX0_fillValues cX0_fillValues 7 none) := jx_mm4 (jx_tp 148 rfl) rfl
set_option maxRecDepth 20000 in
theorem kX0_86 : jx_mem (Cond.methodLink RX0 86 yX2_clear) := jx_mm4 (jx_tp 149 rfl) rfl
set_option maxRecDepth 20000 in
theorem kX0_95 : jx_mem (Cond.methodLink RX0 95 yX4_moveTo) := jx_mm4 (jx_tp 150 rfl) rfl
set_option maxRecDepth 20000 in
theorem kX0_72 : jx_mem (Cond.methodLink RX0 72 yX0_columnOf) := jx_mm4 (jx_tp 151 rfl) rfl
set_option maxRecDepth 20000 in
theorem kst_X0_columnOf : jx_mem (Cond.static yX0_columnOf) := jx_mm4 (jx_tp 152 rfl) rfl
set_option maxRecDepth 20000 in
theorem kc_X0_columnOf : jx_mem (Cond.code yX0_columnOf cX0_columnOf 2 (some .int)) := jx_mm4 (jx_tp 153 rfl) rfl
set_option maxRecDepth 20000 in
theorem kX0_100 : jx_mem (Cond.methodLink RX0 100 yX4_valueOfMonomial) := jx_mm4 (jx_tp 154 rfl) rfl
set_option maxRecDepth 20000 in
theorem kX0_103 : jx_mem (Cond.methodLink RX0 103 yX2_put) := jx_mm4 (jx_tp 155 rfl) rfl
set_option maxRecDepth 20000 in
theorem kX0_34 : jx_mem (Cond.methodLink RX0 34 yX2_reduceRows) := jx_mm4 (jx_tp 156 rfl) rfl
set_option maxRecDepth 20000 in
theorem kX0_38 : jx_mem (Cond.methodLink RX0 38 yX5_copyFrom) := jx_mm4 (jx_tp 157 rfl) rfl
set_option maxRecDepth 20000 in
theorem kX0_45 : jx_mem (Cond.methodLink RX0 45 yJ7_fill_53178) := jx_mm4 (jx_tp 158 rfl) rfl
set_option maxRecDepth 20000 in
theorem kX0_54 : jx_mem (Cond.methodLink RX0 54 yX0_exponentOfColumn) := jx_mm4 (jx_tp 159 rfl) rfl
set_option maxRecDepth 20000 in
theorem kst_X0_exponentOfColumn : jx_mem (Cond.static yX0_exponentOfColumn) := jx_mm4 (jx_tp 160 rfl) rfl
set_option maxRecDepth 20000 in
theorem kc_X0_exponentOfColumn : jx_mem (Cond.code yX0_exponentOfColumn cX0_exponentOfColumn 3 (some .int)) := jx_mm4 (jx_tp 161 rfl) rfl
set_option maxRecDepth 20000 in
theorem kX0_57 : jx_mem (Cond.methodLink RX0 57 yX5_listMonomials) := jx_mm4 (jx_tp 162 rfl) rfl
set_option maxRecDepth 20000 in
theorem kX0_76 : jx_mem (Cond.methodLink RX0 76 yX2_at) := jx_mm4 (jx_tp 163 rfl) rfl
set_option maxRecDepth 20000 in
theorem kX0_79 : jx_mem (Cond.methodLink RX0 79 yX5_setCoefficient) := jx_mm4 (jx_tp 164 rfl) rfl
set_option maxRecDepth 20000 in
theorem kX9_299 : jx_mem (Cond.methodLink RX9 299 yX5_hasSameIdeal) := jx_mm4 (jx_tp 165 rfl) rfl
set_option maxRecDepth 20000 in
theorem kim_X5_hasSameIdeal : jx_mem (Cond.instanceMethod yX5_hasSameIdeal) := jx_mm4 (jx_tp 166 rfl) rfl
set_option maxRecDepth 20000 in
theorem ksel_X5_hasSameIdeal : jx_mem (Cond.selects RX5 yX5_hasSameIdeal yX5_hasSameIdeal) := jx_mm4 (jx_tp 167 rfl) rfl
set_option maxRecDepth 20000 in
theorem kc_X5_hasSameIdeal : jx_mem (Cond.code yX5_hasSameIdeal cX5_hasSameIdeal 3 (some .boolean)) := jx_mm4 (jx_tp 168 rfl) rfl
set_option maxRecDepth 20000 in
theorem kX9_302 : jx_mem (Cond.methodLink RX9 302 yX5_otherRules) := jx_mm4 (jx_tp 169 rfl) rfl
set_option maxRecDepth 20000 in
theorem kim_X5_otherRules : jx_mem (Cond.instanceMethod yX5_otherRules) := jx_mm4 (jx_tp 170 rfl) rfl
set_option maxRecDepth 20000 in
theorem ksel_X5_otherRules : jx_mem (Cond.selects RX5 yX5_otherRules yX5_otherRules) := jx_mm4 (jx_tp 171 rfl) rfl
set_option maxRecDepth 20000 in
theorem kc_X5_otherRules : jx_mem (Cond.code yX5_otherRules cX5_otherRules 4 (some .int)) := jx_mm4 (jx_tp 172 rfl) rfl
set_option maxRecDepth 20000 in
theorem kX5_108 : jx_mem (Cond.methodLink RX5 108 yX5_hasOtherRule) := jx_mm4 (jx_tp 173 rfl) rfl
set_option maxRecDepth 20000 in
theorem kim_X5_hasOtherRule : jx_mem (Cond.instanceMethod yX5_hasOtherRule) := jx_mm4 (jx_tp 175 rfl) rfl
set_option maxRecDepth 20000 in
theorem kc_X5_hasOtherRule : jx_mem (Cond.code yX5_hasOtherRule cX5_hasOtherRule 4 (some .boolean)) := jx_mm4 (jx_tp 176 rfl) rfl
set_option maxRecDepth 20000 in
theorem kL_229 : jx_mem (Cond.methodLink RL 229 yX9_undo) := jx_mm4 (jx_tp 177 rfl) rfl
set_option maxRecDepth 20000 in
theorem kim_X9_undo : jx_mem (Cond.instanceMethod yX9_undo) := jx_mm4 (jx_tp 178 rfl) rfl
set_option maxRecDepth 20000 in
theorem ksel_X9_undo : jx_mem (Cond.selects RX9 yX9_undo yX9_undo) := jx_mm4 (jx_tp 179 rfl) rfl
set_option maxRecDepth 20000 in
theorem kc_X9_undo : jx_mem (Cond.code yX9_undo cX9_undo 1 (some .int)) := jx_mm4 (jx_tp 180 rfl) rfl
set_option maxRecDepth 20000 in
theorem kX9_306 : jx_mem (Cond.methodLink RX9 306 yX1_bringBack) := jx_mm4 (jx_tp 181 rfl) rfl
set_option maxRecDepth 20000 in
theorem kim_X1_bringBack : jx_mem (Cond.instanceMethod yX1_bringBack) := jx_mm4 (jx_tp 182 rfl) rfl
set_option maxRecDepth 20000 in
theorem ksel_X1_bringBack : jx_mem (Cond.selects RX1 yX1_bringBack yX1_bringBack) := jx_mm4 (jx_tp 183 rfl) rfl
set_option maxRecDepth 20000 in
theorem kc_X1_bringBack : jx_mem (Cond.code yX1_bringBack cX1_bringBack 3 none) := jx_mm4 (jx_tp 184 rfl) rfl
set_option maxRecDepth 20000 in
theorem kX1_22 : jx_mem (Cond.methodLink RX1 22 yX5_copyFrom) := jx_mm4 (jx_tp 185 rfl) rfl
set_option maxRecDepth 20000 in
theorem kL_108 : jx_mem (Cond.methodLink RL 108 yL_appendText) := jx_mm4 (jx_tp 186 rfl) rfl
set_option maxRecDepth 20000 in
theorem kst_L_appendText : jx_mem (Cond.static yL_appendText) := jx_mm4 (jx_tp 187 rfl) rfl
set_option maxRecDepth 20000 in
theorem kL_13 : jx_mem (Cond.classLink RL 13 "java/lang/IllegalStateException") := jx_mm4 (jx_tp 189 rfl) rfl
set_option maxRecDepth 20000 in
theorem kL_7 : jx_mem (Cond.methodLink RL 7 yX9_appendText) := jx_mm4 (jx_tp 190 rfl) rfl
set_option maxRecDepth 20000 in
theorem kim_X9_appendText : jx_mem (Cond.instanceMethod yX9_appendText) := jx_mm4 (jx_tp 191 rfl) rfl
set_option maxRecDepth 20000 in
theorem ksel_X9_appendText : jx_mem (Cond.selects RX9 yX9_appendText yX9_appendText) := jx_mm4 (jx_tp 192 rfl) rfl
set_option maxRecDepth 20000 in
theorem kc_X9_appendText : jx_mem (Cond.code yX9_appendText cX9_appendText 3 (some .int)) := jx_mm4 (jx_tp 193 rfl) rfl
set_option maxRecDepth 20000 in
theorem kX9_97 : jx_mem (Cond.classLink RX9 97 "java/lang/IllegalStateException") := jx_mm4 (jx_tp 194 rfl) rfl
set_option maxRecDepth 20000 in
theorem kins_IllegalStateException : jx_mem (Cond.instantiable "java/lang/IllegalStateException" 6) := jx_mm4 (jx_tp 195 rfl) rfl
set_option maxRecDepth 20000 in
theorem kThrowable_198 : jx_mem (Cond.fieldLink "java/lang/Throwable" 198 "java/lang/Throwable" "backtrace" "Ljava/lang/Object;") := jx_mm4 (jx_tp 215 rfl) rfl
set_option maxRecDepth 20000 in
theorem kThrowable_1 : jx_mem (Cond.methodLink "java/lang/Throwable" 1 objectInit) := jx_mm4 (jx_tp 219 rfl) rfl
set_option maxRecDepth 20000 in
theorem kThrowable_13 : jx_mem (Cond.fieldLink "java/lang/Throwable" 13 "java/lang/Throwable" "UNASSIGNED_STACK" "[Ljava/lang/StackTraceElement;") := jx_mm4 (jx_tp 220 rfl) rfl
set_option maxRecDepth 20000 in
theorem kThrowable_20 : jx_mem (Cond.fieldLink "java/lang/Throwable" 20 "java/lang/Throwable" "SUPPRESSED_SENTINEL" "Ljava/util/List;") := jx_mm4 (jx_tp 222 rfl) rfl
set_option maxRecDepth 20000 in
theorem kThrowable_27 : jx_mem (Cond.methodLink "java/lang/Throwable" 27 ⟨"java/lang/Throwable", "fillInStackTrace", "()Ljava/lang/Throwable;"⟩) := jx_mm4 (jx_tp 224 rfl) rfl
set_option maxRecDepth 20000 in
theorem kThrowable_202 : jx_mem (Cond.methodLink "java/lang/Throwable" 202 ⟨"java/lang/Throwable", "fillInStackTrace", "(I)Ljava/lang/Throwable;"⟩) := jx_mm4 (jx_tp 230 rfl) rfl
set_option maxRecDepth 20000 in
theorem kins_Throwable : jx_mem (Cond.instantiable "java/lang/Throwable" 6) := jx_mm4 (jx_tp 233 rfl) rfl
set_option maxRecDepth 20000 in
theorem kX9_99 : jx_mem (Cond.methodLink RX9 99 ⟨"java/lang/IllegalStateException", "<init>", "()V"⟩) := jx_mm4 (jx_tp 235 rfl) rfl
set_option maxRecDepth 20000 in
theorem kIllegalStateException_1 : jx_mem (Cond.methodLink "java/lang/IllegalStateException" 1 ⟨"java/lang/RuntimeException", "<init>", "()V"⟩) := jx_mm4 (jx_tp 238 rfl) rfl
set_option maxRecDepth 20000 in
theorem kRuntimeException_1 : jx_mem (Cond.methodLink "java/lang/RuntimeException" 1 ⟨"java/lang/Exception", "<init>", "()V"⟩) := jx_mm5 (jx_tp 1 rfl) rfl
set_option maxRecDepth 20000 in
theorem kException_1 : jx_mem (Cond.methodLink "java/lang/Exception" 1 ⟨"java/lang/Throwable", "<init>", "()V"⟩) := jx_mm5 (jx_tp 4 rfl) rfl
set_option maxRecDepth 20000 in
theorem kThrowable_7 : jx_mem (Cond.fieldLink "java/lang/Throwable" 7 "java/lang/Throwable" "cause" "Ljava/lang/Throwable;") := jx_mm5 (jx_tp 6 rfl) rfl
set_option maxRecDepth 20000 in
theorem kThrowable_17 : jx_mem (Cond.fieldLink "java/lang/Throwable" 17 "java/lang/Throwable" "stackTrace" "[Ljava/lang/StackTraceElement;") := jx_mm5 (jx_tp 7 rfl) rfl
set_option maxRecDepth 20000 in
theorem kThrowable_24 : jx_mem (Cond.fieldLink "java/lang/Throwable" 24 "java/lang/Throwable" "suppressedExceptions" "Ljava/util/List;") := jx_mm5 (jx_tp 8 rfl) rfl
set_option maxRecDepth 20000 in
theorem kX9_100 : jx_mem (Cond.methodLink RX9 100 yX7_append) := jx_mm5 (jx_tp 17 rfl) rfl
set_option maxRecDepth 20000 in
theorem kim_X7_append : jx_mem (Cond.instanceMethod yX7_append) := jx_mm5 (jx_tp 18 rfl) rfl
set_option maxRecDepth 20000 in
theorem ksel_X7_append : jx_mem (Cond.selects RX7 yX7_append yX7_append) := jx_mm5 (jx_tp 19 rfl) rfl
set_option maxRecDepth 20000 in
theorem kc_X7_append : jx_mem (Cond.code yX7_append cX7_append 2 none) := jx_mm5 (jx_tp 20 rfl) rfl
set_option maxRecDepth 20000 in
theorem kL_117 : jx_mem (Cond.methodLink RL 117 yL_truncateText) := jx_mm5 (jx_tp 21 rfl) rfl
set_option maxRecDepth 20000 in
theorem kst_L_truncateText : jx_mem (Cond.static yL_truncateText) := jx_mm5 (jx_tp 22 rfl) rfl
set_option maxRecDepth 20000 in
theorem kL_18 : jx_mem (Cond.classLink RL 18 "java/lang/IllegalArgumentException") := jx_mm5 (jx_tp 24 rfl) rfl
set_option maxRecDepth 20000 in
theorem kL_15 : jx_mem (Cond.methodLink RL 15 yX9_truncateText) := jx_mm5 (jx_tp 25 rfl) rfl
set_option maxRecDepth 20000 in
theorem kim_X9_truncateText : jx_mem (Cond.instanceMethod yX9_truncateText) := jx_mm5 (jx_tp 26 rfl) rfl
set_option maxRecDepth 20000 in
theorem ksel_X9_truncateText : jx_mem (Cond.selects RX9 yX9_truncateText yX9_truncateText) := jx_mm5 (jx_tp 27 rfl) rfl
set_option maxRecDepth 20000 in
theorem kc_X9_truncateText : jx_mem (Cond.code yX9_truncateText cX9_truncateText 2 (some .int)) := jx_mm5 (jx_tp 28 rfl) rfl
set_option maxRecDepth 20000 in
theorem kX9_104 : jx_mem (Cond.classLink RX9 104 "java/lang/IllegalArgumentException") := jx_mm5 (jx_tp 29 rfl) rfl
set_option maxRecDepth 20000 in
theorem kins_IllegalArgumentException : jx_mem (Cond.instantiable "java/lang/IllegalArgumentException" 6) := jx_mm5 (jx_tp 30 rfl) rfl
set_option maxRecDepth 20000 in
theorem kX9_106 : jx_mem (Cond.methodLink RX9 106 ⟨"java/lang/IllegalArgumentException", "<init>", "()V"⟩) := jx_mm5 (jx_tp 38 rfl) rfl
set_option maxRecDepth 20000 in
theorem kIllegalArgumentException_1 : jx_mem (Cond.methodLink "java/lang/IllegalArgumentException" 1 ⟨"java/lang/RuntimeException", "<init>", "()V"⟩) := jx_mm5 (jx_tp 41 rfl) rfl
set_option maxRecDepth 20000 in
theorem kL_136 : jx_mem (Cond.methodLink RL 136 yL_result) := jx_mm5 (jx_tp 44 rfl) rfl
set_option maxRecDepth 20000 in
theorem kst_L_result : jx_mem (Cond.static yL_result) := jx_mm5 (jx_tp 45 rfl) rfl
set_option maxRecDepth 20000 in
theorem kL_23 : jx_mem (Cond.classLink RL 23 "java/lang/IndexOutOfBoundsException") := jx_mm5 (jx_tp 47 rfl) rfl
set_option maxRecDepth 20000 in
theorem kL_20 : jx_mem (Cond.methodLink RL 20 yX9_result) := jx_mm5 (jx_tp 48 rfl) rfl
set_option maxRecDepth 20000 in
theorem kim_X9_result : jx_mem (Cond.instanceMethod yX9_result) := jx_mm5 (jx_tp 49 rfl) rfl
set_option maxRecDepth 20000 in
theorem ksel_X9_result : jx_mem (Cond.selects RX9 yX9_result yX9_result) := jx_mm5 (jx_tp 50 rfl) rfl
set_option maxRecDepth 20000 in
theorem kc_X9_result : jx_mem (Cond.code yX9_result cX9_result 2 (some .int)) := jx_mm5 (jx_tp 51 rfl) rfl
set_option maxRecDepth 20000 in
theorem kX9_152 : jx_mem (Cond.classLink RX9 152 "java/lang/IndexOutOfBoundsException") := jx_mm5 (jx_tp 52 rfl) rfl
set_option maxRecDepth 20000 in
theorem kins_IndexOutOfBoundsException : jx_mem (Cond.instantiable "java/lang/IndexOutOfBoundsException" 6) := jx_mm5 (jx_tp 53 rfl) rfl
set_option maxRecDepth 20000 in
theorem kX9_154 : jx_mem (Cond.methodLink RX9 154 ⟨"java/lang/IndexOutOfBoundsException", "<init>", "()V"⟩) := jx_mm5 (jx_tp 61 rfl) rfl
set_option maxRecDepth 20000 in
theorem kIndexOutOfBoundsException_1 : jx_mem (Cond.methodLink "java/lang/IndexOutOfBoundsException" 1 ⟨"java/lang/RuntimeException", "<init>", "()V"⟩) := jx_mm5 (jx_tp 64 rfl) rfl
set_option maxRecDepth 20000 in
theorem kL_139 : jx_mem (Cond.methodLink RL 139 yL_count) := jx_mm5 (jx_tp 67 rfl) rfl
set_option maxRecDepth 20000 in
theorem kst_L_count : jx_mem (Cond.static yL_count) := jx_mm5 (jx_tp 68 rfl) rfl
set_option maxRecDepth 20000 in
theorem kL_25 : jx_mem (Cond.methodLink RL 25 yX9_count) := jx_mm5 (jx_tp 70 rfl) rfl
set_option maxRecDepth 20000 in
theorem kim_X9_count : jx_mem (Cond.instanceMethod yX9_count) := jx_mm5 (jx_tp 71 rfl) rfl
set_option maxRecDepth 20000 in
theorem ksel_X9_count : jx_mem (Cond.selects RX9 yX9_count yX9_count) := jx_mm5 (jx_tp 72 rfl) rfl
set_option maxRecDepth 20000 in
theorem kc_X9_count : jx_mem (Cond.code yX9_count cX9_count 2 (some .int)) := jx_mm5 (jx_tp 73 rfl) rfl
set_option maxRecDepth 20000 in
theorem kX9_158 : jx_mem (Cond.methodLink RX9 158 yX5_coefficientsNotZero) := jx_mm5 (jx_tp 74 rfl) rfl
set_option maxRecDepth 20000 in
theorem kim_X5_coefficientsNotZero : jx_mem (Cond.instanceMethod yX5_coefficientsNotZero) := jx_mm5 (jx_tp 75 rfl) rfl
set_option maxRecDepth 20000 in
theorem ksel_X5_coefficientsNotZero : jx_mem (Cond.selects RX5 yX5_coefficientsNotZero yX5_coefficientsNotZero) := jx_mm5 (jx_tp 76 rfl) rfl
set_option maxRecDepth 20000 in
theorem kc_X5_coefficientsNotZero : jx_mem (Cond.code yX5_coefficientsNotZero cX5_coefficientsNotZero 4 (some .int)) := jx_mm5 (jx_tp 77 rfl) rfl
set_option maxRecDepth 20000 in
theorem kX9_165 : jx_mem (Cond.methodLink RX9 165 yX5_candidates) := jx_mm5 (jx_tp 78 rfl) rfl
set_option maxRecDepth 20000 in
theorem kim_X5_candidates : jx_mem (Cond.instanceMethod yX5_candidates) := jx_mm5 (jx_tp 79 rfl) rfl
set_option maxRecDepth 20000 in
theorem ksel_X5_candidates : jx_mem (Cond.selects RX5 yX5_candidates yX5_candidates) := jx_mm5 (jx_tp 80 rfl) rfl
set_option maxRecDepth 20000 in
theorem kc_X5_candidates : jx_mem (Cond.code yX5_candidates cX5_candidates 5 (some .int)) := jx_mm5 (jx_tp 81 rfl) rfl
set_option maxRecDepth 20000 in
theorem kX5_71 : jx_mem (Cond.methodLink RX5 71 yX5_obstacle) := jx_mm5 (jx_tp 82 rfl) rfl
set_option maxRecDepth 20000 in
theorem kX9_168 : jx_mem (Cond.methodLink RX9 168 yX5_corners) := jx_mm5 (jx_tp 83 rfl) rfl
set_option maxRecDepth 20000 in
theorem kim_X5_corners : jx_mem (Cond.instanceMethod yX5_corners) := jx_mm5 (jx_tp 84 rfl) rfl
set_option maxRecDepth 20000 in
theorem ksel_X5_corners : jx_mem (Cond.selects RX5 yX5_corners yX5_corners) := jx_mm5 (jx_tp 85 rfl) rfl
set_option maxRecDepth 20000 in
theorem kc_X5_corners : jx_mem (Cond.code yX5_corners cX5_corners 3 (some .int)) := jx_mm5 (jx_tp 86 rfl) rfl
set_option maxRecDepth 20000 in
theorem kX5_75 : jx_mem (Cond.methodLink RX5 75 yX5_isCorner) := jx_mm5 (jx_tp 87 rfl) rfl
set_option maxRecDepth 20000 in
theorem kim_X5_isCorner : jx_mem (Cond.instanceMethod yX5_isCorner) := jx_mm5 (jx_tp 88 rfl) rfl
set_option maxRecDepth 20000 in
theorem ksel_X5_isCorner : jx_mem (Cond.selects RX5 yX5_isCorner yX5_isCorner) := jx_mm5 (jx_tp 89 rfl) rfl
set_option maxRecDepth 20000 in
theorem kc_X5_isCorner : jx_mem (Cond.code yX5_isCorner cX5_isCorner 3 (some .boolean)) := jx_mm5 (jx_tp 90 rfl) rfl
set_option maxRecDepth 20000 in
theorem kL_142 : jx_mem (Cond.methodLink RL 142 yL_changes) := jx_mm5 (jx_tp 91 rfl) rfl
set_option maxRecDepth 20000 in
theorem kst_L_changes : jx_mem (Cond.static yL_changes) := jx_mm5 (jx_tp 92 rfl) rfl
set_option maxRecDepth 20000 in
theorem kL_28 : jx_mem (Cond.methodLink RL 28 yX9_changes) := jx_mm5 (jx_tp 94 rfl) rfl
set_option maxRecDepth 20000 in
theorem kim_X9_changes : jx_mem (Cond.instanceMethod yX9_changes) := jx_mm5 (jx_tp 95 rfl) rfl
set_option maxRecDepth 20000 in
theorem ksel_X9_changes : jx_mem (Cond.selects RX9 yX9_changes yX9_changes) := jx_mm5 (jx_tp 96 rfl) rfl
set_option maxRecDepth 20000 in
theorem kc_X9_changes : jx_mem (Cond.code yX9_changes cX9_changes 2 (some .int)) := jx_mm5 (jx_tp 97 rfl) rfl
set_option maxRecDepth 20000 in
theorem kL_145 : jx_mem (Cond.methodLink RL 145 yL_refusal) := jx_mm5 (jx_tp 98 rfl) rfl
set_option maxRecDepth 20000 in
theorem kst_L_refusal : jx_mem (Cond.static yL_refusal) := jx_mm5 (jx_tp 99 rfl) rfl
set_option maxRecDepth 20000 in
theorem kL_31 : jx_mem (Cond.methodLink RL 31 yX9_refusal) := jx_mm5 (jx_tp 101 rfl) rfl
set_option maxRecDepth 20000 in
theorem kim_X9_refusal : jx_mem (Cond.instanceMethod yX9_refusal) := jx_mm5 (jx_tp 102 rfl) rfl
set_option maxRecDepth 20000 in
theorem ksel_X9_refusal : jx_mem (Cond.selects RX9 yX9_refusal yX9_refusal) := jx_mm5 (jx_tp 103 rfl) rfl
set_option maxRecDepth 20000 in
theorem kc_X9_refusal : jx_mem (Cond.code yX9_refusal cX9_refusal 3 (some .int)) := jx_mm5 (jx_tp 104 rfl) rfl
set_option maxRecDepth 20000 in
theorem kX9_171 : jx_mem (Cond.methodLink RX9 171 yX9_isOutside) := jx_mm5 (jx_tp 105 rfl) rfl
set_option maxRecDepth 20000 in
theorem kX9_175 : jx_mem (Cond.methodLink RX9 175 yX5_obstacle) := jx_mm5 (jx_tp 106 rfl) rfl
set_option maxRecDepth 20000 in
theorem kL_149 : jx_mem (Cond.methodLink RL 149 yL_join) := jx_mm5 (jx_tp 107 rfl) rfl
set_option maxRecDepth 20000 in
theorem kst_L_join : jx_mem (Cond.static yL_join) := jx_mm5 (jx_tp 108 rfl) rfl
set_option maxRecDepth 20000 in
theorem kL_35 : jx_mem (Cond.methodLink RL 35 yX9_join) := jx_mm5 (jx_tp 110 rfl) rfl
set_option maxRecDepth 20000 in
theorem kim_X9_join : jx_mem (Cond.instanceMethod yX9_join) := jx_mm5 (jx_tp 111 rfl) rfl
set_option maxRecDepth 20000 in
theorem ksel_X9_join : jx_mem (Cond.selects RX9 yX9_join yX9_join) := jx_mm5 (jx_tp 112 rfl) rfl
set_option maxRecDepth 20000 in
theorem kc_X9_join : jx_mem (Cond.code yX9_join cX9_join 3 (some .int)) := jx_mm5 (jx_tp 113 rfl) rfl
set_option maxRecDepth 20000 in
theorem kX9_179 : jx_mem (Cond.methodLink RX9 179 yX9_beginChange) := jx_mm5 (jx_tp 114 rfl) rfl
set_option maxRecDepth 20000 in
theorem kim_X9_beginChange : jx_mem (Cond.instanceMethod yX9_beginChange) := jx_mm5 (jx_tp 116 rfl) rfl
set_option maxRecDepth 20000 in
theorem kc_X9_beginChange : jx_mem (Cond.code yX9_beginChange cX9_beginChange 2 none) := jx_mm5 (jx_tp 117 rfl) rfl
set_option maxRecDepth 20000 in
theorem kX9_309 : jx_mem (Cond.methodLink RX9 309 yX1_remember) := jx_mm5 (jx_tp 118 rfl) rfl
set_option maxRecDepth 20000 in
theorem kim_X1_remember : jx_mem (Cond.instanceMethod yX1_remember) := jx_mm5 (jx_tp 119 rfl) rfl
set_option maxRecDepth 20000 in
theorem ksel_X1_remember : jx_mem (Cond.selects RX1 yX1_remember yX1_remember) := jx_mm5 (jx_tp 120 rfl) rfl
set_option maxRecDepth 20000 in
theorem kc_X1_remember : jx_mem (Cond.code yX1_remember cX1_remember 2 none) := jx_mm5 (jx_tp 121 rfl) rfl
set_option maxRecDepth 20000 in
theorem kX1_21 : jx_mem (Cond.methodLink RX1 21 yX5_init) := jx_mm5 (jx_tp 122 rfl) rfl
set_option maxRecDepth 20000 in
theorem kX1_29 : jx_mem (Cond.methodLink RX1 29 Lib.Math.min.name) := jx_mm5 (jx_tp 123 rfl) rfl
set_option maxRecDepth 20000 in
theorem kX9_183 : jx_mem (Cond.methodLink RX9 183 yX5_changeHeight) := jx_mm5 (jx_tp 124 rfl) rfl
set_option maxRecDepth 20000 in
theorem kL_152 : jx_mem (Cond.methodLink RL 152 yL_leave) := jx_mm5 (jx_tp 125 rfl) rfl
set_option maxRecDepth 20000 in
theorem kst_L_leave : jx_mem (Cond.static yL_leave) := jx_mm5 (jx_tp 126 rfl) rfl
set_option maxRecDepth 20000 in
theorem kL_38 : jx_mem (Cond.methodLink RL 38 yX9_leave) := jx_mm5 (jx_tp 128 rfl) rfl
set_option maxRecDepth 20000 in
theorem kim_X9_leave : jx_mem (Cond.instanceMethod yX9_leave) := jx_mm5 (jx_tp 129 rfl) rfl
set_option maxRecDepth 20000 in
theorem ksel_X9_leave : jx_mem (Cond.selects RX9 yX9_leave yX9_leave) := jx_mm5 (jx_tp 130 rfl) rfl
set_option maxRecDepth 20000 in
theorem kc_X9_leave : jx_mem (Cond.code yX9_leave cX9_leave 4 (some .int)) := jx_mm5 (jx_tp 131 rfl) rfl
set_option maxRecDepth 20000 in
theorem kX9_190 : jx_mem (Cond.methodLink RX9 190 yX5_isCorner) := jx_mm5 (jx_tp 132 rfl) rfl
set_option maxRecDepth 20000 in
theorem kL_155 : jx_mem (Cond.methodLink RL 155 yL_monomial) := jx_mm5 (jx_tp 133 rfl) rfl
set_option maxRecDepth 20000 in
theorem kst_L_monomial : jx_mem (Cond.static yL_monomial) := jx_mm5 (jx_tp 134 rfl) rfl
set_option maxRecDepth 20000 in
theorem kL_41 : jx_mem (Cond.methodLink RL 41 yX9_monomial) := jx_mm5 (jx_tp 136 rfl) rfl
set_option maxRecDepth 20000 in
theorem kim_X9_monomial : jx_mem (Cond.instanceMethod yX9_monomial) := jx_mm5 (jx_tp 137 rfl) rfl
set_option maxRecDepth 20000 in
theorem ksel_X9_monomial : jx_mem (Cond.selects RX9 yX9_monomial yX9_monomial) := jx_mm5 (jx_tp 138 rfl) rfl
set_option maxRecDepth 20000 in
theorem kc_X9_monomial : jx_mem (Cond.code yX9_monomial cX9_monomial 3 (some .int)) := jx_mm5 (jx_tp 139 rfl) rfl
set_option maxRecDepth 20000 in
theorem kL_158 : jx_mem (Cond.methodLink RL 158 yL_border) := jx_mm5 (jx_tp 140 rfl) rfl
set_option maxRecDepth 20000 in
theorem kst_L_border : jx_mem (Cond.static yL_border) := jx_mm5 (jx_tp 141 rfl) rfl
set_option maxRecDepth 20000 in
theorem kL_44 : jx_mem (Cond.methodLink RL 44 yX9_border) := jx_mm5 (jx_tp 143 rfl) rfl
set_option maxRecDepth 20000 in
theorem kim_X9_border : jx_mem (Cond.instanceMethod yX9_border) := jx_mm5 (jx_tp 144 rfl) rfl
set_option maxRecDepth 20000 in
theorem ksel_X9_border : jx_mem (Cond.selects RX9 yX9_border yX9_border) := jx_mm5 (jx_tp 145 rfl) rfl
set_option maxRecDepth 20000 in
theorem kc_X9_border : jx_mem (Cond.code yX9_border cX9_border 3 (some .int)) := jx_mm5 (jx_tp 146 rfl) rfl
set_option maxRecDepth 20000 in
theorem kL_165 : jx_mem (Cond.methodLink RL 165 yL_setRule) := jx_mm5 (jx_tp 147 rfl) rfl
set_option maxRecDepth 20000 in
theorem kst_L_setRule : jx_mem (Cond.static yL_setRule) := jx_mm5 (jx_tp 148 rfl) rfl
set_option maxRecDepth 20000 in
theorem kL_47 : jx_mem (Cond.methodLink RL 47 yX9_setRule) := jx_mm5 (jx_tp 150 rfl) rfl
set_option maxRecDepth 20000 in
theorem kim_X9_setRule : jx_mem (Cond.instanceMethod yX9_setRule) := jx_mm5 (jx_tp 151 rfl) rfl
set_option maxRecDepth 20000 in
theorem ksel_X9_setRule : jx_mem (Cond.selects RX9 yX9_setRule yX9_setRule) := jx_mm5 (jx_tp 152 rfl) rfl
set_option maxRecDepth 20000 in
theorem kc_X9_setRule : jx_mem (Cond.code yX9_setRule cX9_setRule 5 (some .int)) := jx_mm5 (jx_tp 153 rfl) rfl
set_option maxRecDepth 20000 in
theorem kX9_208 : jx_mem (Cond.methodLink RX9 208 yX5_hasCoefficient) := jx_mm5 (jx_tp 154 rfl) rfl
set_option maxRecDepth 20000 in
theorem kX9_211 : jx_mem (Cond.methodLink RX9 211 yX5_coefficient) := jx_mm5 (jx_tp 155 rfl) rfl
set_option maxRecDepth 20000 in
theorem kX9_214 : jx_mem (Cond.methodLink RX9 214 yX5_setCoefficient) := jx_mm5 (jx_tp 156 rfl) rfl
set_option maxRecDepth 20000 in
theorem kL_169 : jx_mem (Cond.methodLink RL 169 yL_rule) := jx_mm5 (jx_tp 157 rfl) rfl
set_option maxRecDepth 20000 in
theorem kst_L_rule : jx_mem (Cond.static yL_rule) := jx_mm5 (jx_tp 158 rfl) rfl
set_option maxRecDepth 20000 in
theorem kL_51 : jx_mem (Cond.methodLink RL 51 yX9_rule) := jx_mm5 (jx_tp 160 rfl) rfl
set_option maxRecDepth 20000 in
theorem kim_X9_rule : jx_mem (Cond.instanceMethod yX9_rule) := jx_mm5 (jx_tp 161 rfl) rfl
set_option maxRecDepth 20000 in
theorem ksel_X9_rule : jx_mem (Cond.selects RX9 yX9_rule yX9_rule) := jx_mm5 (jx_tp 162 rfl) rfl
set_option maxRecDepth 20000 in
theorem kc_X9_rule : jx_mem (Cond.code yX9_rule cX9_rule 3 (some .int)) := jx_mm5 (jx_tp 163 rfl) rfl
set_option maxRecDepth 20000 in
theorem kL_172 : jx_mem (Cond.methodLink RL 172 yL_value) := jx_mm5 (jx_tp 164 rfl) rfl
set_option maxRecDepth 20000 in
theorem kst_L_value : jx_mem (Cond.static yL_value) := jx_mm5 (jx_tp 165 rfl) rfl
set_option maxRecDepth 20000 in
theorem kL_54 : jx_mem (Cond.methodLink RL 54 yX9_value) := jx_mm5 (jx_tp 167 rfl) rfl
set_option maxRecDepth 20000 in
theorem kim_X9_value : jx_mem (Cond.instanceMethod yX9_value) := jx_mm5 (jx_tp 168 rfl) rfl
set_option maxRecDepth 20000 in
theorem ksel_X9_value : jx_mem (Cond.selects RX9 yX9_value yX9_value) := jx_mm5 (jx_tp 169 rfl) rfl
set_option maxRecDepth 20000 in
theorem kc_X9_value : jx_mem (Cond.code yX9_value cX9_value 4 (some .int)) := jx_mm5 (jx_tp 170 rfl) rfl
set_option maxRecDepth 20000 in
theorem kX9_218 : jx_mem (Cond.methodLink RX9 218 yX4_moveTo) := jx_mm5 (jx_tp 171 rfl) rfl
set_option maxRecDepth 20000 in
theorem kX9_221 : jx_mem (Cond.methodLink RX9 221 yX4_valueOfRule) := jx_mm5 (jx_tp 172 rfl) rfl
set_option maxRecDepth 20000 in
theorem kL_175 : jx_mem (Cond.methodLink RL 175 yL_table) := jx_mm5 (jx_tp 173 rfl) rfl
set_option maxRecDepth 20000 in
theorem kst_L_table : jx_mem (Cond.static yL_table) := jx_mm5 (jx_tp 174 rfl) rfl
set_option maxRecDepth 20000 in
theorem kL_57 : jx_mem (Cond.methodLink RL 57 yX9_table) := jx_mm5 (jx_tp 176 rfl) rfl
set_option maxRecDepth 20000 in
theorem kim_X9_table : jx_mem (Cond.instanceMethod yX9_table) := jx_mm5 (jx_tp 177 rfl) rfl
set_option maxRecDepth 20000 in
theorem ksel_X9_table : jx_mem (Cond.selects RX9 yX9_table yX9_table) := jx_mm5 (jx_tp 178 rfl) rfl
set_option maxRecDepth 20000 in
theorem kc_X9_table : jx_mem (Cond.code yX9_table cX9_table 4 (some .int)) := jx_mm5 (jx_tp 179 rfl) rfl
set_option maxRecDepth 20000 in
theorem kX9_225 : jx_mem (Cond.methodLink RX9 225 yX6_cell) := jx_mm5 (jx_tp 180 rfl) rfl
set_option maxRecDepth 20000 in
theorem kim_X6_cell : jx_mem (Cond.instanceMethod yX6_cell) := jx_mm5 (jx_tp 181 rfl) rfl
set_option maxRecDepth 20000 in
theorem ksel_X6_cell : jx_mem (Cond.selects RX6 yX6_cell yX6_cell) := jx_mm5 (jx_tp 182 rfl) rfl
set_option maxRecDepth 20000 in
theorem kc_X6_cell : jx_mem (Cond.code yX6_cell cX6_cell 4 (some .int)) := jx_mm5 (jx_tp 183 rfl) rfl
set_option maxRecDepth 20000 in
theorem kL_183 : jx_mem (Cond.methodLink RL 183 yL_clash) := jx_mm5 (jx_tp 184 rfl) rfl
set_option maxRecDepth 20000 in
theorem kst_L_clash : jx_mem (Cond.static yL_clash) := jx_mm5 (jx_tp 185 rfl) rfl
set_option maxRecDepth 20000 in
theorem kL_60 : jx_mem (Cond.methodLink RL 60 yX9_clash) := jx_mm5 (jx_tp 187 rfl) rfl
set_option maxRecDepth 20000 in
theorem kim_X9_clash : jx_mem (Cond.instanceMethod yX9_clash) := jx_mm5 (jx_tp 188 rfl) rfl
set_option maxRecDepth 20000 in
theorem ksel_X9_clash : jx_mem (Cond.selects RX9 yX9_clash yX9_clash) := jx_mm5 (jx_tp 189 rfl) rfl
set_option maxRecDepth 20000 in
theorem kc_X9_clash : jx_mem (Cond.code yX9_clash cX9_clash 3 (some .int)) := jx_mm5 (jx_tp 190 rfl) rfl
set_option maxRecDepth 20000 in
theorem kX9_232 : jx_mem (Cond.methodLink RX9 232 yX6_firstDifference) := jx_mm5 (jx_tp 191 rfl) rfl
set_option maxRecDepth 20000 in
theorem kim_X6_firstDifference : jx_mem (Cond.instanceMethod yX6_firstDifference) := jx_mm5 (jx_tp 192 rfl) rfl
set_option maxRecDepth 20000 in
theorem ksel_X6_firstDifference : jx_mem (Cond.selects RX6 yX6_firstDifference yX6_firstDifference) := jx_mm5 (jx_tp 193 rfl) rfl
set_option maxRecDepth 20000 in
theorem kc_X6_firstDifference : jx_mem (Cond.code yX6_firstDifference cX6_firstDifference 2 (some .int)) := jx_mm5 (jx_tp 194 rfl) rfl
set_option maxRecDepth 20000 in
theorem kL_186 : jx_mem (Cond.methodLink RL 186 yL_trace) := jx_mm5 (jx_tp 195 rfl) rfl
set_option maxRecDepth 20000 in
theorem kst_L_trace : jx_mem (Cond.static yL_trace) := jx_mm5 (jx_tp 196 rfl) rfl
set_option maxRecDepth 20000 in
theorem kL_63 : jx_mem (Cond.methodLink RL 63 yX9_trace) := jx_mm5 (jx_tp 198 rfl) rfl
set_option maxRecDepth 20000 in
theorem kim_X9_trace : jx_mem (Cond.instanceMethod yX9_trace) := jx_mm5 (jx_tp 199 rfl) rfl
set_option maxRecDepth 20000 in
theorem ksel_X9_trace : jx_mem (Cond.selects RX9 yX9_trace yX9_trace) := jx_mm5 (jx_tp 200 rfl) rfl
set_option maxRecDepth 20000 in
theorem kc_X9_trace : jx_mem (Cond.code yX9_trace cX9_trace 3 (some .int)) := jx_mm5 (jx_tp 201 rfl) rfl
set_option maxRecDepth 20000 in
theorem kX9_236 : jx_mem (Cond.methodLink RX9 236 yX6_traceOfPowers) := jx_mm5 (jx_tp 202 rfl) rfl
set_option maxRecDepth 20000 in
theorem kim_X6_traceOfPowers : jx_mem (Cond.instanceMethod yX6_traceOfPowers) := jx_mm5 (jx_tp 203 rfl) rfl
set_option maxRecDepth 20000 in
theorem ksel_X6_traceOfPowers : jx_mem (Cond.selects RX6 yX6_traceOfPowers yX6_traceOfPowers) := jx_mm5 (jx_tp 204 rfl) rfl
set_option maxRecDepth 20000 in
theorem kc_X6_traceOfPowers : jx_mem (Cond.code yX6_traceOfPowers cX6_traceOfPowers 3 (some .int)) := jx_mm5 (jx_tp 205 rfl) rfl
set_option maxRecDepth 20000 in
theorem kX6_124 : jx_mem (Cond.methodLink RX6 124 yX6_raise) := jx_mm5 (jx_tp 206 rfl) rfl
set_option maxRecDepth 20000 in
theorem kX6_128 : jx_mem (Cond.methodLink RX6 128 yX2_traceOfProduct) := jx_mm5 (jx_tp 207 rfl) rfl
set_option maxRecDepth 20000 in
theorem kim_X2_traceOfProduct : jx_mem (Cond.instanceMethod yX2_traceOfProduct) := jx_mm5 (jx_tp 208 rfl) rfl
set_option maxRecDepth 20000 in
theorem ksel_X2_traceOfProduct : jx_mem (Cond.selects RX2 yX2_traceOfProduct yX2_traceOfProduct) := jx_mm5 (jx_tp 209 rfl) rfl
set_option maxRecDepth 20000 in
theorem kc_X2_traceOfProduct : jx_mem (Cond.code yX2_traceOfProduct cX2_traceOfProduct 6 (some .int)) := jx_mm5 (jx_tp 210 rfl) rfl
set_option maxRecDepth 20000 in
theorem kL_189 : jx_mem (Cond.methodLink RL 189 yL_normal) := jx_mm5 (jx_tp 211 rfl) rfl
set_option maxRecDepth 20000 in
theorem kst_L_normal : jx_mem (Cond.static yL_normal) := jx_mm5 (jx_tp 212 rfl) rfl
set_option maxRecDepth 20000 in
theorem kL_66 : jx_mem (Cond.methodLink RL 66 yX9_normal) := jx_mm5 (jx_tp 214 rfl) rfl
set_option maxRecDepth 20000 in
theorem kim_X9_normal : jx_mem (Cond.instanceMethod yX9_normal) := jx_mm5 (jx_tp 215 rfl) rfl
set_option maxRecDepth 20000 in
theorem ksel_X9_normal : jx_mem (Cond.selects RX9 yX9_normal yX9_normal) := jx_mm5 (jx_tp 216 rfl) rfl
set_option maxRecDepth 20000 in
theorem kc_X9_normal : jx_mem (Cond.code yX9_normal cX9_normal 4 (some .int)) := jx_mm5 (jx_tp 217 rfl) rfl
set_option maxRecDepth 20000 in
theorem kX9_239 : jx_mem (Cond.methodLink RX9 239 yX6_prepare) := jx_mm5 (jx_tp 218 rfl) rfl
set_option maxRecDepth 20000 in
theorem kX9_242 : jx_mem (Cond.methodLink RX9 242 yX6_normalFormOfMonomial) := jx_mm5 (jx_tp 219 rfl) rfl
set_option maxRecDepth 20000 in
theorem kL_192 : jx_mem (Cond.methodLink RL 192 yL_determinant) := jx_mm5 (jx_tp 220 rfl) rfl
set_option maxRecDepth 20000 in
theorem kst_L_determinant : jx_mem (Cond.static yL_determinant) := jx_mm5 (jx_tp 221 rfl) rfl
set_option maxRecDepth 20000 in
theorem kL_69 : jx_mem (Cond.methodLink RL 69 yX9_determinant) := jx_mm5 (jx_tp 223 rfl) rfl
set_option maxRecDepth 20000 in
theorem kim_X9_determinant : jx_mem (Cond.instanceMethod yX9_determinant) := jx_mm5 (jx_tp 224 rfl) rfl
set_option maxRecDepth 20000 in
theorem ksel_X9_determinant : jx_mem (Cond.selects RX9 yX9_determinant yX9_determinant) := jx_mm5 (jx_tp 225 rfl) rfl
set_option maxRecDepth 20000 in
theorem kc_X9_determinant : jx_mem (Cond.code yX9_determinant cX9_determinant 2 (some .int)) := jx_mm5 (jx_tp 226 rfl) rfl
set_option maxRecDepth 20000 in
theorem kX9_246 : jx_mem (Cond.methodLink RX9 246 yX6_determinantOf) := jx_mm5 (jx_tp 227 rfl) rfl
set_option maxRecDepth 20000 in
theorem kim_X6_determinantOf : jx_mem (Cond.instanceMethod yX6_determinantOf) := jx_mm5 (jx_tp 228 rfl) rfl
set_option maxRecDepth 20000 in
theorem ksel_X6_determinantOf : jx_mem (Cond.selects RX6 yX6_determinantOf yX6_determinantOf) := jx_mm5 (jx_tp 229 rfl) rfl
set_option maxRecDepth 20000 in
theorem kc_X6_determinantOf : jx_mem (Cond.code yX6_determinantOf cX6_determinantOf 2 (some .int)) := jx_mm5 (jx_tp 230 rfl) rfl
set_option maxRecDepth 20000 in
theorem kL_195 : jx_mem (Cond.methodLink RL 195 yL_kernel) := jx_mm5 (jx_tp 231 rfl) rfl
set_option maxRecDepth 20000 in
theorem kst_L_kernel : jx_mem (Cond.static yL_kernel) := jx_mm5 (jx_tp 232 rfl) rfl
set_option maxRecDepth 20000 in
theorem kL_72 : jx_mem (Cond.methodLink RL 72 yX9_kernel) := jx_mm5 (jx_tp 234 rfl) rfl
set_option maxRecDepth 20000 in
theorem kim_X9_kernel : jx_mem (Cond.instanceMethod yX9_kernel) := jx_mm5 (jx_tp 235 rfl) rfl
set_option maxRecDepth 20000 in
theorem ksel_X9_kernel : jx_mem (Cond.selects RX9 yX9_kernel yX9_kernel) := jx_mm5 (jx_tp 236 rfl) rfl
set_option maxRecDepth 20000 in
theorem kc_X9_kernel : jx_mem (Cond.code yX9_kernel cX9_kernel 3 (some .int)) := jx_mm5 (jx_tp 237 rfl) rfl
set_option maxRecDepth 20000 in
theorem kX9_249 : jx_mem (Cond.methodLink RX9 249 yX6_nullityOf) := jx_mm5 (jx_tp 238 rfl) rfl
set_option maxRecDepth 20000 in
theorem kim_X6_nullityOf : jx_mem (Cond.instanceMethod yX6_nullityOf) := jx_mm5 (jx_tp 239 rfl) rfl
set_option maxRecDepth 20000 in
theorem ksel_X6_nullityOf : jx_mem (Cond.selects RX6 yX6_nullityOf yX6_nullityOf) := jx_mm6 (jx_tp 0 rfl) rfl
set_option maxRecDepth 20000 in
theorem kc_X6_nullityOf : jx_mem (Cond.code yX6_nullityOf cX6_nullityOf 3 (some .int)) := jx_mm6 (jx_tp 1 rfl) rfl
set_option maxRecDepth 20000 in
theorem kL_198 : jx_mem (Cond.methodLink RL 198 yL_zeros) := jx_mm6 (jx_tp 2 rfl) rfl
set_option maxRecDepth 20000 in
theorem kst_L_zeros : jx_mem (Cond.static yL_zeros) := jx_mm6 (jx_tp 3 rfl) rfl
set_option maxRecDepth 20000 in
theorem kL_75 : jx_mem (Cond.methodLink RL 75 yX9_zeros) := jx_mm6 (jx_tp 5 rfl) rfl
set_option maxRecDepth 20000 in
theorem kim_X9_zeros : jx_mem (Cond.instanceMethod yX9_zeros) := jx_mm6 (jx_tp 6 rfl) rfl
set_option maxRecDepth 20000 in
theorem ksel_X9_zeros : jx_mem (Cond.selects RX9 yX9_zeros yX9_zeros) := jx_mm6 (jx_tp 7 rfl) rfl
set_option maxRecDepth 20000 in
theorem kc_X9_zeros : jx_mem (Cond.code yX9_zeros cX9_zeros 2 (some .int)) := jx_mm6 (jx_tp 8 rfl) rfl
set_option maxRecDepth 20000 in
theorem kX9_252 : jx_mem (Cond.methodLink RX9 252 yX8_number) := jx_mm6 (jx_tp 9 rfl) rfl
set_option maxRecDepth 20000 in
theorem kim_X8_number : jx_mem (Cond.instanceMethod yX8_number) := jx_mm6 (jx_tp 10 rfl) rfl
set_option maxRecDepth 20000 in
theorem ksel_X8_number : jx_mem (Cond.selects RX8 yX8_number yX8_number) := jx_mm6 (jx_tp 11 rfl) rfl
set_option maxRecDepth 20000 in
theorem kc_X8_number : jx_mem (Cond.code yX8_number cX8_number 1 (some .int)) := jx_mm6 (jx_tp 12 rfl) rfl
set_option maxRecDepth 20000 in
theorem kX9_255 : jx_mem (Cond.methodLink RX9 255 yX8_distinctEverywhere) := jx_mm6 (jx_tp 13 rfl) rfl
set_option maxRecDepth 20000 in
theorem kim_X8_distinctEverywhere : jx_mem (Cond.instanceMethod yX8_distinctEverywhere) := jx_mm6 (jx_tp 14 rfl) rfl
set_option maxRecDepth 20000 in
theorem ksel_X8_distinctEverywhere : jx_mem (Cond.selects RX8 yX8_distinctEverywhere yX8_distinctEverywhere) := jx_mm6 (jx_tp 15 rfl) rfl
set_option maxRecDepth 20000 in
theorem kc_X8_distinctEverywhere : jx_mem (Cond.code yX8_distinctEverywhere cX8_distinctEverywhere 1 (some .int)) := jx_mm6 (jx_tp 16 rfl) rfl
set_option maxRecDepth 20000 in
theorem kX8_131 : jx_mem (Cond.methodLink RX8 131 yX8_fillForm) := jx_mm6 (jx_tp 17 rfl) rfl
set_option maxRecDepth 20000 in
theorem kim_X8_fillForm : jx_mem (Cond.instanceMethod yX8_fillForm) := jx_mm6 (jx_tp 19 rfl) rfl
set_option maxRecDepth 20000 in
theorem kc_X8_fillForm : jx_mem (Cond.code yX8_fillForm cX8_fillForm 6 none) := jx_mm6 (jx_tp 20 rfl) rfl
set_option maxRecDepth 20000 in
theorem kX8_134 : jx_mem (Cond.methodLink RX8 134 yX8_makeMonomialTables) := jx_mm6 (jx_tp 21 rfl) rfl
set_option maxRecDepth 20000 in
theorem kim_X8_makeMonomialTables : jx_mem (Cond.instanceMethod yX8_makeMonomialTables) := jx_mm6 (jx_tp 23 rfl) rfl
set_option maxRecDepth 20000 in
theorem kc_X8_makeMonomialTables : jx_mem (Cond.code yX8_makeMonomialTables cX8_makeMonomialTables 2 none) := jx_mm6 (jx_tp 24 rfl) rfl
set_option maxRecDepth 20000 in
theorem kX8_150 : jx_mem (Cond.methodLink RX8 150 yX8_makeMonomialTable) := jx_mm6 (jx_tp 25 rfl) rfl
set_option maxRecDepth 20000 in
theorem kim_X8_makeMonomialTable : jx_mem (Cond.instanceMethod yX8_makeMonomialTable) := jx_mm6 (jx_tp 27 rfl) rfl
set_option maxRecDepth 20000 in
theorem kc_X8_makeMonomialTable : jx_mem (Cond.code yX8_makeMonomialTable cX8_makeMonomialTable 6 none) := jx_mm6 (jx_tp 28 rfl) rfl
set_option maxRecDepth 20000 in
theorem kX8_154 : jx_mem (Cond.methodLink RX8 154 yX5_numberOf) := jx_mm6 (jx_tp 29 rfl) rfl
set_option maxRecDepth 20000 in
theorem kX8_158 : jx_mem (Cond.methodLink RX8 158 yX2_becomeIdentity) := jx_mm6 (jx_tp 30 rfl) rfl
set_option maxRecDepth 20000 in
theorem kX8_162 : jx_mem (Cond.methodLink RX8 162 yX6_ofVariable) := jx_mm6 (jx_tp 31 rfl) rfl
set_option maxRecDepth 20000 in
theorem kX8_166 : jx_mem (Cond.methodLink RX8 166 yX2_becomeProduct) := jx_mm6 (jx_tp 32 rfl) rfl
set_option maxRecDepth 20000 in
theorem kX8_137 : jx_mem (Cond.methodLink RX8 137 yX2_traceOfProduct) := jx_mm6 (jx_tp 33 rfl) rfl
set_option maxRecDepth 20000 in
theorem kX8_141 : jx_mem (Cond.methodLink RX8 141 yX2_put) := jx_mm6 (jx_tp 34 rfl) rfl
set_option maxRecDepth 20000 in
theorem kL_201 : jx_mem (Cond.methodLink RL 201 yL_zero) := jx_mm6 (jx_tp 35 rfl) rfl
set_option maxRecDepth 20000 in
theorem kst_L_zero : jx_mem (Cond.static yL_zero) := jx_mm6 (jx_tp 36 rfl) rfl
set_option maxRecDepth 20000 in
theorem kL_78 : jx_mem (Cond.methodLink RL 78 yX9_zero) := jx_mm6 (jx_tp 38 rfl) rfl
set_option maxRecDepth 20000 in
theorem kim_X9_zero : jx_mem (Cond.instanceMethod yX9_zero) := jx_mm6 (jx_tp 39 rfl) rfl
set_option maxRecDepth 20000 in
theorem ksel_X9_zero : jx_mem (Cond.selects RX9 yX9_zero yX9_zero) := jx_mm6 (jx_tp 40 rfl) rfl
set_option maxRecDepth 20000 in
theorem kc_X9_zero : jx_mem (Cond.code yX9_zero cX9_zero 3 (some .int)) := jx_mm6 (jx_tp 41 rfl) rfl
set_option maxRecDepth 20000 in
theorem kX9_261 : jx_mem (Cond.methodLink RX9 261 yX8_multiplicityOf) := jx_mm6 (jx_tp 42 rfl) rfl
set_option maxRecDepth 20000 in
theorem kL_204 : jx_mem (Cond.methodLink RL 204 yL_multiplicity) := jx_mm6 (jx_tp 43 rfl) rfl
set_option maxRecDepth 20000 in
theorem kst_L_multiplicity : jx_mem (Cond.static yL_multiplicity) := jx_mm6 (jx_tp 44 rfl) rfl
set_option maxRecDepth 20000 in
theorem kL_81 : jx_mem (Cond.methodLink RL 81 yX9_multiplicity) := jx_mm6 (jx_tp 46 rfl) rfl
set_option maxRecDepth 20000 in
theorem kim_X9_multiplicity : jx_mem (Cond.instanceMethod yX9_multiplicity) := jx_mm6 (jx_tp 47 rfl) rfl
set_option maxRecDepth 20000 in
theorem ksel_X9_multiplicity : jx_mem (Cond.selects RX9 yX9_multiplicity yX9_multiplicity) := jx_mm6 (jx_tp 48 rfl) rfl
set_option maxRecDepth 20000 in
theorem kc_X9_multiplicity : jx_mem (Cond.code yX9_multiplicity cX9_multiplicity 4 (some .int)) := jx_mm6 (jx_tp 49 rfl) rfl
set_option maxRecDepth 20000 in
theorem kX9_270 : jx_mem (Cond.methodLink RX9 270 yX8_indexOf) := jx_mm6 (jx_tp 50 rfl) rfl
set_option maxRecDepth 20000 in
theorem kim_X8_indexOf : jx_mem (Cond.instanceMethod yX8_indexOf) := jx_mm6 (jx_tp 51 rfl) rfl
set_option maxRecDepth 20000 in
theorem ksel_X8_indexOf : jx_mem (Cond.selects RX8 yX8_indexOf yX8_indexOf) := jx_mm6 (jx_tp 52 rfl) rfl
set_option maxRecDepth 20000 in
theorem kc_X8_indexOf : jx_mem (Cond.code yX8_indexOf cX8_indexOf 4 (some .int)) := jx_mm6 (jx_tp 53 rfl) rfl
set_option maxRecDepth 20000 in
theorem kL_212 : jx_mem (Cond.methodLink RL 212 yL_addPoint) := jx_mm6 (jx_tp 54 rfl) rfl
set_option maxRecDepth 20000 in
theorem kst_L_addPoint : jx_mem (Cond.static yL_addPoint) := jx_mm6 (jx_tp 55 rfl) rfl
set_option maxRecDepth 20000 in
theorem kL_84 : jx_mem (Cond.methodLink RL 84 yX9_addPoint) := jx_mm6 (jx_tp 57 rfl) rfl
set_option maxRecDepth 20000 in
theorem kim_X9_addPoint : jx_mem (Cond.instanceMethod yX9_addPoint) := jx_mm6 (jx_tp 58 rfl) rfl
set_option maxRecDepth 20000 in
theorem ksel_X9_addPoint : jx_mem (Cond.selects RX9 yX9_addPoint yX9_addPoint) := jx_mm6 (jx_tp 59 rfl) rfl
set_option maxRecDepth 20000 in
theorem kc_X9_addPoint : jx_mem (Cond.code yX9_addPoint cX9_addPoint 3 (some .int)) := jx_mm6 (jx_tp 60 rfl) rfl
set_option maxRecDepth 20000 in
theorem kX9_275 : jx_mem (Cond.methodLink RX9 275 yX5_hasPoint) := jx_mm6 (jx_tp 61 rfl) rfl
set_option maxRecDepth 20000 in
theorem kX9_278 : jx_mem (Cond.methodLink RX9 278 yX5_appendPoint) := jx_mm6 (jx_tp 62 rfl) rfl
set_option maxRecDepth 20000 in
theorem kL_215 : jx_mem (Cond.methodLink RL 215 yL_removePoint) := jx_mm6 (jx_tp 63 rfl) rfl
set_option maxRecDepth 20000 in
theorem kst_L_removePoint : jx_mem (Cond.static yL_removePoint) := jx_mm6 (jx_tp 64 rfl) rfl
set_option maxRecDepth 20000 in
theorem kL_87 : jx_mem (Cond.methodLink RL 87 yX9_removePoint) := jx_mm6 (jx_tp 66 rfl) rfl
set_option maxRecDepth 20000 in
theorem kim_X9_removePoint : jx_mem (Cond.instanceMethod yX9_removePoint) := jx_mm6 (jx_tp 67 rfl) rfl
set_option maxRecDepth 20000 in
theorem ksel_X9_removePoint : jx_mem (Cond.selects RX9 yX9_removePoint yX9_removePoint) := jx_mm6 (jx_tp 68 rfl) rfl
set_option maxRecDepth 20000 in
theorem kc_X9_removePoint : jx_mem (Cond.code yX9_removePoint cX9_removePoint 2 (some .int)) := jx_mm6 (jx_tp 69 rfl) rfl
set_option maxRecDepth 20000 in
theorem kX9_282 : jx_mem (Cond.methodLink RX9 282 yX5_deletePoint) := jx_mm6 (jx_tp 70 rfl) rfl
set_option maxRecDepth 20000 in
theorem kim_X5_deletePoint : jx_mem (Cond.instanceMethod yX5_deletePoint) := jx_mm6 (jx_tp 71 rfl) rfl
set_option maxRecDepth 20000 in
theorem ksel_X5_deletePoint : jx_mem (Cond.selects RX5 yX5_deletePoint yX5_deletePoint) := jx_mm6 (jx_tp 72 rfl) rfl
set_option maxRecDepth 20000 in
theorem kc_X5_deletePoint : jx_mem (Cond.code yX5_deletePoint cX5_deletePoint 3 none) := jx_mm6 (jx_tp 73 rfl) rfl
set_option maxRecDepth 20000 in
theorem kL_218 : jx_mem (Cond.methodLink RL 218 yL_point) := jx_mm6 (jx_tp 74 rfl) rfl
set_option maxRecDepth 20000 in
theorem kst_L_point : jx_mem (Cond.static yL_point) := jx_mm6 (jx_tp 75 rfl) rfl
set_option maxRecDepth 20000 in
theorem kL_90 : jx_mem (Cond.methodLink RL 90 yX9_point) := jx_mm6 (jx_tp 77 rfl) rfl
set_option maxRecDepth 20000 in
theorem kim_X9_point : jx_mem (Cond.instanceMethod yX9_point) := jx_mm6 (jx_tp 78 rfl) rfl
set_option maxRecDepth 20000 in
theorem ksel_X9_point : jx_mem (Cond.selects RX9 yX9_point yX9_point) := jx_mm6 (jx_tp 79 rfl) rfl
set_option maxRecDepth 20000 in
theorem kc_X9_point : jx_mem (Cond.code yX9_point cX9_point 5 (some .int)) := jx_mm6 (jx_tp 80 rfl) rfl
set_option maxRecDepth 20000 in
theorem kX9_291 : jx_mem (Cond.methodLink RX9 291 yX4_isZeroOf) := jx_mm6 (jx_tp 81 rfl) rfl
set_option maxRecDepth 20000 in
theorem kL_221 : jx_mem (Cond.methodLink RL 221 yL_fit) := jx_mm6 (jx_tp 82 rfl) rfl
set_option maxRecDepth 20000 in
theorem kst_L_fit : jx_mem (Cond.static yL_fit) := jx_mm6 (jx_tp 83 rfl) rfl
set_option maxRecDepth 20000 in
theorem kL_93 : jx_mem (Cond.methodLink RL 93 yX9_fit) := jx_mm6 (jx_tp 85 rfl) rfl
set_option maxRecDepth 20000 in
theorem kim_X9_fit : jx_mem (Cond.instanceMethod yX9_fit) := jx_mm6 (jx_tp 86 rfl) rfl
set_option maxRecDepth 20000 in
theorem ksel_X9_fit : jx_mem (Cond.selects RX9 yX9_fit yX9_fit) := jx_mm6 (jx_tp 87 rfl) rfl
set_option maxRecDepth 20000 in
theorem kc_X9_fit : jx_mem (Cond.code yX9_fit cX9_fit 1 (some .int)) := jx_mm6 (jx_tp 88 rfl) rfl
set_option maxRecDepth 20000 in
theorem kL_233 : jx_mem (Cond.methodLink RL 233 yL_save) := jx_mm6 (jx_tp 89 rfl) rfl
set_option maxRecDepth 20000 in
theorem kst_L_save : jx_mem (Cond.static yL_save) := jx_mm6 (jx_tp 90 rfl) rfl
set_option maxRecDepth 20000 in
theorem kL_97 : jx_mem (Cond.methodLink RL 97 yX9_save) := jx_mm6 (jx_tp 92 rfl) rfl
set_option maxRecDepth 20000 in
theorem kim_X9_save : jx_mem (Cond.instanceMethod yX9_save) := jx_mm6 (jx_tp 93 rfl) rfl
set_option maxRecDepth 20000 in
theorem ksel_X9_save : jx_mem (Cond.selects RX9 yX9_save yX9_save) := jx_mm6 (jx_tp 94 rfl) rfl
set_option maxRecDepth 20000 in
theorem kc_X9_save : jx_mem (Cond.code yX9_save cX9_save 2 none) := jx_mm6 (jx_tp 95 rfl) rfl
set_option maxRecDepth 20000 in
theorem kL_237 : jx_mem (Cond.methodLink RL 237 yL_restore) := jx_mm6 (jx_tp 96 rfl) rfl
set_option maxRecDepth 20000 in
theorem kst_L_restore : jx_mem (Cond.static yL_restore) := jx_mm6 (jx_tp 97 rfl) rfl
set_option maxRecDepth 20000 in
theorem kL_101 : jx_mem (Cond.methodLink RL 101 yX9_restore) := jx_mm6 (jx_tp 99 rfl) rfl
set_option maxRecDepth 20000 in
theorem kim_X9_restore : jx_mem (Cond.instanceMethod yX9_restore) := jx_mm6 (jx_tp 100 rfl) rfl
set_option maxRecDepth 20000 in
theorem ksel_X9_restore : jx_mem (Cond.selects RX9 yX9_restore yX9_restore) := jx_mm6 (jx_tp 101 rfl) rfl
set_option maxRecDepth 20000 in
theorem kc_X9_restore : jx_mem (Cond.code yX9_restore cX9_restore 2 none) := jx_mm6 (jx_tp 102 rfl) rfl
set_option maxRecDepth 20000 in
theorem kL_105 : jx_mem (Cond.classLink RL 105 RX10) := jx_mm6 (jx_tp 103 rfl) rfl
set_option maxRecDepth 20000 in
theorem kins_X10 : jx_mem (Cond.instantiable RX10 38) := jx_mm6 (jx_tp 104 rfl) rfl
set_option maxRecDepth 20000 in
theorem kL_107 : jx_mem (Cond.methodLink RL 107 yX10_init) := jx_mm6 (jx_tp 105 rfl) rfl
set_option maxRecDepth 20000 in
theorem kim_X10_init : jx_mem (Cond.instanceMethod yX10_init) := jx_mm6 (jx_tp 106 rfl) rfl
set_option maxRecDepth 20000 in
theorem kc_X10_init : jx_mem (Cond.code yX10_init cX10_init 1 none) := jx_mm6 (jx_tp 107 rfl) rfl
set_option maxRecDepth 20000 in
theorem kX10_1 : jx_mem (Cond.methodLink RX10 1 objectInit) := jx_mm6 (jx_tp 108 rfl) rfl
set_option maxRecDepth 20000 in
theorem kX10_88 : jx_mem (Cond.methodLink RX10 88 yX10_begins) := jx_mm6 (jx_tp 109 rfl) rfl
set_option maxRecDepth 20000 in
theorem kim_X10_begins : jx_mem (Cond.instanceMethod yX10_begins) := jx_mm6 (jx_tp 111 rfl) rfl
set_option maxRecDepth 20000 in
theorem kc_X10_begins : jx_mem (Cond.code yX10_begins cX10_begins 2 none) := jx_mm6 (jx_tp 112 rfl) rfl
set_option maxRecDepth 20000 in
theorem kX10_94 : jx_mem (Cond.methodLink RX10 94 yX10_laysBorder) := jx_mm6 (jx_tp 113 rfl) rfl
set_option maxRecDepth 20000 in
theorem kim_X10_laysBorder : jx_mem (Cond.instanceMethod yX10_laysBorder) := jx_mm6 (jx_tp 115 rfl) rfl
set_option maxRecDepth 20000 in
theorem kc_X10_laysBorder : jx_mem (Cond.code yX10_laysBorder cX10_laysBorder 2 none) := jx_mm6 (jx_tp 116 rfl) rfl
set_option maxRecDepth 20000 in
theorem kX10_105 : jx_mem (Cond.methodLink RX10 105 yX10_n) := jx_mm6 (jx_tp 117 rfl) rfl
set_option maxRecDepth 20000 in
theorem kim_X10_n : jx_mem (Cond.instanceMethod yX10_n) := jx_mm6 (jx_tp 119 rfl) rfl
set_option maxRecDepth 20000 in
theorem kc_X10_n : jx_mem (Cond.code yX10_n cX10_n 1 (some .int)) := jx_mm6 (jx_tp 120 rfl) rfl
set_option maxRecDepth 20000 in
theorem kX10_126 : jx_mem (Cond.methodLink RX10 126 yX10_addsBorder) := jx_mm6 (jx_tp 121 rfl) rfl
set_option maxRecDepth 20000 in
theorem kim_X10_addsBorder : jx_mem (Cond.instanceMethod yX10_addsBorder) := jx_mm6 (jx_tp 123 rfl) rfl
set_option maxRecDepth 20000 in
theorem kc_X10_addsBorder : jx_mem (Cond.code yX10_addsBorder cX10_addsBorder 4 none) := jx_mm6 (jx_tp 124 rfl) rfl
set_option maxRecDepth 20000 in
theorem kX10_112 : jx_mem (Cond.methodLink RX10 112 yX10_hasIt) := jx_mm6 (jx_tp 125 rfl) rfl
set_option maxRecDepth 20000 in
theorem kim_X10_hasIt : jx_mem (Cond.instanceMethod yX10_hasIt) := jx_mm6 (jx_tp 127 rfl) rfl
set_option maxRecDepth 20000 in
theorem kc_X10_hasIt : jx_mem (Cond.code yX10_hasIt cX10_hasIt 3 (some .boolean)) := jx_mm6 (jx_tp 128 rfl) rfl
set_option maxRecDepth 20000 in
theorem kX10_108 : jx_mem (Cond.methodLink RX10 108 yX10_monomialAt) := jx_mm6 (jx_tp 129 rfl) rfl
set_option maxRecDepth 20000 in
theorem kim_X10_monomialAt : jx_mem (Cond.instanceMethod yX10_monomialAt) := jx_mm6 (jx_tp 131 rfl) rfl
set_option maxRecDepth 20000 in
theorem kc_X10_monomialAt : jx_mem (Cond.code yX10_monomialAt cX10_monomialAt 4 (some .int)) := jx_mm6 (jx_tp 132 rfl) rfl
set_option maxRecDepth 20000 in
theorem kX10_119 : jx_mem (Cond.methodLink RX10 119 yX10_borderAt) := jx_mm6 (jx_tp 133 rfl) rfl
set_option maxRecDepth 20000 in
theorem kim_X10_borderAt : jx_mem (Cond.instanceMethod yX10_borderAt) := jx_mm6 (jx_tp 135 rfl) rfl
set_option maxRecDepth 20000 in
theorem kc_X10_borderAt : jx_mem (Cond.code yX10_borderAt cX10_borderAt 4 (some .int)) := jx_mm6 (jx_tp 136 rfl) rfl
set_option maxRecDepth 20000 in
theorem kX10_122 : jx_mem (Cond.methodLink RX10 122 yX10_isAhead) := jx_mm6 (jx_tp 137 rfl) rfl
set_option maxRecDepth 20000 in
theorem kst_X10_isAhead : jx_mem (Cond.static yX10_isAhead) := jx_mm6 (jx_tp 138 rfl) rfl
set_option maxRecDepth 20000 in
theorem kc_X10_isAhead : jx_mem (Cond.code yX10_isAhead cX10_isAhead 4 (some .boolean)) := jx_mm6 (jx_tp 139 rfl) rfl
set_option maxRecDepth 20000 in
theorem kX10_91 : jx_mem (Cond.fieldLink RX10 91 "BorderBasisModel" "thrown" "I") := jx_mm6 (jx_tp 140 rfl) rfl
set_option maxRecDepth 20000 in
theorem kX10_7 : jx_mem (Cond.fieldLink RX10 7 "BorderBasisModel" "now" "[I") := jx_mm6 (jx_tp 141 rfl) rfl
set_option maxRecDepth 20000 in
theorem kX10_13 : jx_mem (Cond.fieldLink RX10 13 "BorderBasisModel" "aside" "[I") := jx_mm6 (jx_tp 142 rfl) rfl
set_option maxRecDepth 20000 in
theorem kX10_16 : jx_mem (Cond.fieldLink RX10 16 "BorderBasisModel" "before" "[I") := jx_mm6 (jx_tp 143 rfl) rfl
set_option maxRecDepth 20000 in
theorem kX10_19 : jx_mem (Cond.fieldLink RX10 19 "BorderBasisModel" "undos" "[I") := jx_mm6 (jx_tp 144 rfl) rfl
set_option maxRecDepth 20000 in
theorem kX10_251 : jx_mem (Cond.fieldLink RX10 251 "BorderBasisModel" "undoMany" "I") := jx_mm6 (jx_tp 145 rfl) rfl
set_option maxRecDepth 20000 in
theorem kX10_22 : jx_mem (Cond.fieldLink RX10 22 "BorderBasisModel" "saved" "[I") := jx_mm6 (jx_tp 146 rfl) rfl
set_option maxRecDepth 20000 in
theorem kX10_25 : jx_mem (Cond.fieldLink RX10 25 "BorderBasisModel" "isSaved" "[Z") := jx_mm6 (jx_tp 147 rfl) rfl
set_option maxRecDepth 20000 in
theorem kX10_29 : jx_mem (Cond.fieldLink RX10 29 "BorderBasisModel" "counts" "[I") := jx_mm6 (jx_tp 148 rfl) rfl
set_option maxRecDepth 20000 in
theorem kX10_32 : jx_mem (Cond.fieldLink RX10 32 "BorderBasisModel" "text" "[B") := jx_mm6 (jx_tp 149 rfl) rfl
set_option maxRecDepth 20000 in
theorem kX10_146 : jx_mem (Cond.fieldLink RX10 146 "BorderBasisModel" "length" "I") := jx_mm6 (jx_tp 150 rfl) rfl
set_option maxRecDepth 20000 in
theorem kX10_149 : jx_mem (Cond.fieldLink RX10 149 "BorderBasisModel" "at" "I") := jx_mm6 (jx_tp 151 rfl) rfl
set_option maxRecDepth 20000 in
theorem kX10_155 : jx_mem (Cond.fieldLink RX10 155 "BorderBasisModel" "from" "I") := jx_mm6 (jx_tp 152 rfl) rfl
set_option maxRecDepth 20000 in
theorem kX10_169 : jx_mem (Cond.fieldLink RX10 169 "BorderBasisModel" "token" "I") := jx_mm6 (jx_tp 153 rfl) rfl
set_option maxRecDepth 20000 in
theorem kX10_172 : jx_mem (Cond.fieldLink RX10 172 "BorderBasisModel" "number" "I") := jx_mm6 (jx_tp 154 rfl) rfl
set_option maxRecDepth 20000 in
theorem kX10_175 : jx_mem (Cond.fieldLink RX10 175 "BorderBasisModel" "error" "I") := jx_mm6 (jx_tp 155 rfl) rfl
set_option maxRecDepth 20000 in
theorem kX10_36 : jx_mem (Cond.fieldLink RX10 36 "BorderBasisModel" "errorAt" "I") := jx_mm6 (jx_tp 156 rfl) rfl
set_option maxRecDepth 20000 in
theorem kX10_40 : jx_mem (Cond.fieldLink RX10 40 "BorderBasisModel" "words" "[B") := jx_mm6 (jx_tp 157 rfl) rfl
set_option maxRecDepth 20000 in
theorem kX10_208 : jx_mem (Cond.fieldLink RX10 208 "BorderBasisModel" "termC" "I") := jx_mm6 (jx_tp 158 rfl) rfl
set_option maxRecDepth 20000 in
theorem kX10_211 : jx_mem (Cond.fieldLink RX10 211 "BorderBasisModel" "termI" "I") := jx_mm6 (jx_tp 159 rfl) rfl
set_option maxRecDepth 20000 in
theorem kX10_43 : jx_mem (Cond.fieldLink RX10 43 "BorderBasisModel" "tableX" "[I") := jx_mm6 (jx_tp 160 rfl) rfl
set_option maxRecDepth 20000 in
theorem kX10_46 : jx_mem (Cond.fieldLink RX10 46 "BorderBasisModel" "tableY" "[I") := jx_mm6 (jx_tp 161 rfl) rfl
set_option maxRecDepth 20000 in
theorem kX10_49 : jx_mem (Cond.fieldLink RX10 49 "BorderBasisModel" "one" "[I") := jx_mm6 (jx_tp 162 rfl) rfl
set_option maxRecDepth 20000 in
theorem kX10_52 : jx_mem (Cond.fieldLink RX10 52 "BorderBasisModel" "product" "[I") := jx_mm6 (jx_tp 163 rfl) rfl
set_option maxRecDepth 20000 in
theorem kX10_55 : jx_mem (Cond.fieldLink RX10 55 "BorderBasisModel" "other" "[I") := jx_mm6 (jx_tp 164 rfl) rfl
set_option maxRecDepth 20000 in
theorem kX10_58 : jx_mem (Cond.fieldLink RX10 58 "BorderBasisModel" "tall" "[I") := jx_mm6 (jx_tp 165 rfl) rfl
set_option maxRecDepth 20000 in
theorem kX10_61 : jx_mem (Cond.fieldLink RX10 61 "BorderBasisModel" "column" "[I") := jx_mm6 (jx_tp 166 rfl) rfl
set_option maxRecDepth 20000 in
theorem kX10_64 : jx_mem (Cond.fieldLink RX10 64 "BorderBasisModel" "columnNext" "[I") := jx_mm6 (jx_tp 167 rfl) rfl
set_option maxRecDepth 20000 in
theorem kX10_283 : jx_mem (Cond.fieldLink RX10 283 "BorderBasisModel" "rank" "I") := jx_mm6 (jx_tp 168 rfl) rfl
set_option maxRecDepth 20000 in
theorem kX10_286 : jx_mem (Cond.fieldLink RX10 286 "BorderBasisModel" "determinant" "I") := jx_mm6 (jx_tp 169 rfl) rfl
set_option maxRecDepth 20000 in
theorem kX10_67 : jx_mem (Cond.fieldLink RX10 67 "BorderBasisModel" "result" "[I") := jx_mm6 (jx_tp 170 rfl) rfl
set_option maxRecDepth 20000 in
theorem kX10_70 : jx_mem (Cond.fieldLink RX10 70 "BorderBasisModel" "sums" "[I") := jx_mm6 (jx_tp 171 rfl) rfl
set_option maxRecDepth 20000 in
theorem kX10_73 : jx_mem (Cond.fieldLink RX10 73 "BorderBasisModel" "powerA" "[I") := jx_mm6 (jx_tp 172 rfl) rfl
set_option maxRecDepth 20000 in
theorem kX10_76 : jx_mem (Cond.fieldLink RX10 76 "BorderBasisModel" "powerB" "[I") := jx_mm6 (jx_tp 173 rfl) rfl
set_option maxRecDepth 20000 in
theorem kX10_322 : jx_mem (Cond.fieldLink RX10 322 "BorderBasisModel" "zeros" "I") := jx_mm6 (jx_tp 174 rfl) rfl
set_option maxRecDepth 20000 in
theorem kX10_79 : jx_mem (Cond.fieldLink RX10 79 "BorderBasisModel" "zeroA" "[I") := jx_mm6 (jx_tp 175 rfl) rfl
set_option maxRecDepth 20000 in
theorem kX10_82 : jx_mem (Cond.fieldLink RX10 82 "BorderBasisModel" "zeroB" "[I") := jx_mm6 (jx_tp 176 rfl) rfl
set_option maxRecDepth 20000 in
theorem kX10_85 : jx_mem (Cond.fieldLink RX10 85 "BorderBasisModel" "rows" "[I") := jx_mm6 (jx_tp 177 rfl) rfl
set_option maxRecDepth 20000 in
theorem kL_114 : jx_mem (Cond.methodLink RL 114 yX10_thrown) := jx_mm7 (jx_tp 15 rfl) rfl
set_option maxRecDepth 20000 in
theorem kim_X10_thrown : jx_mem (Cond.instanceMethod yX10_thrown) := jx_mm7 (jx_tp 16 rfl) rfl
set_option maxRecDepth 20000 in
theorem ksel_X10_thrown : jx_mem (Cond.selects RX10 yX10_thrown yX10_thrown) := jx_mm7 (jx_tp 17 rfl) rfl
set_option maxRecDepth 20000 in
theorem kc_X10_thrown : jx_mem (Cond.code yX10_thrown cX10_thrown 1 (some .int)) := jx_mm7 (jx_tp 18 rfl) rfl
set_option maxRecDepth 20000 in
theorem kL_113 : jx_mem (Cond.methodLink RL 113 yX10_appendText) := jx_mm7 (jx_tp 19 rfl) rfl
set_option maxRecDepth 20000 in
theorem kim_X10_appendText : jx_mem (Cond.instanceMethod yX10_appendText) := jx_mm7 (jx_tp 20 rfl) rfl
set_option maxRecDepth 20000 in
theorem ksel_X10_appendText : jx_mem (Cond.selects RX10 yX10_appendText yX10_appendText) := jx_mm7 (jx_tp 21 rfl) rfl
set_option maxRecDepth 20000 in
theorem kc_X10_appendText : jx_mem (Cond.code yX10_appendText cX10_appendText 3 (some .int)) := jx_mm7 (jx_tp 22 rfl) rfl
set_option maxRecDepth 20000 in
theorem kL_119 : jx_mem (Cond.methodLink RL 119 yX10_truncateText) := jx_mm7 (jx_tp 23 rfl) rfl
set_option maxRecDepth 20000 in
theorem kim_X10_truncateText : jx_mem (Cond.instanceMethod yX10_truncateText) := jx_mm7 (jx_tp 24 rfl) rfl
set_option maxRecDepth 20000 in
theorem ksel_X10_truncateText : jx_mem (Cond.selects RX10 yX10_truncateText yX10_truncateText) := jx_mm7 (jx_tp 25 rfl) rfl
set_option maxRecDepth 20000 in
theorem kc_X10_truncateText : jx_mem (Cond.code yX10_truncateText cX10_truncateText 2 (some .int)) := jx_mm7 (jx_tp 26 rfl) rfl
set_option maxRecDepth 20000 in
theorem kX10_101 : jx_mem (Cond.methodLink RX10 101 yX10_in) := jx_mm7 (jx_tp 27 rfl) rfl
set_option maxRecDepth 20000 in
theorem kst_X10_in : jx_mem (Cond.static yX10_in) := jx_mm7 (jx_tp 28 rfl) rfl
set_option maxRecDepth 20000 in
theorem kc_X10_in : jx_mem (Cond.code yX10_in cX10_in 3 (some .boolean)) := jx_mm7 (jx_tp 29 rfl) rfl
set_option maxRecDepth 20000 in
theorem kL_123 : jx_mem (Cond.methodLink RL 123 yX10_load) := jx_mm7 (jx_tp 30 rfl) rfl
set_option maxRecDepth 20000 in
theorem kim_X10_load : jx_mem (Cond.instanceMethod yX10_load) := jx_mm7 (jx_tp 31 rfl) rfl
set_option maxRecDepth 20000 in
theorem ksel_X10_load : jx_mem (Cond.selects RX10 yX10_load yX10_load) := jx_mm7 (jx_tp 32 rfl) rfl
set_option maxRecDepth 20000 in
theorem kc_X10_load : jx_mem (Cond.code yX10_load cX10_load 3 (some .int)) := jx_mm7 (jx_tp 33 rfl) rfl
set_option maxRecDepth 20000 in
theorem kX10_136 : jx_mem (Cond.methodLink RX10 136 yX10_copies) := jx_mm7 (jx_tp 34 rfl) rfl
set_option maxRecDepth 20000 in
theorem kst_X10_copies : jx_mem (Cond.static yX10_copies) := jx_mm7 (jx_tp 35 rfl) rfl
set_option maxRecDepth 20000 in
theorem kc_X10_copies : jx_mem (Cond.code yX10_copies cX10_copies 5 none) := jx_mm7 (jx_tp 36 rfl) rfl
set_option maxRecDepth 20000 in
theorem kX10_244 : jx_mem (Cond.methodLink RX10 244 yX10_opensText) := jx_mm7 (jx_tp 37 rfl) rfl
set_option maxRecDepth 20000 in
theorem kim_X10_opensText : jx_mem (Cond.instanceMethod yX10_opensText) := jx_mm7 (jx_tp 39 rfl) rfl
set_option maxRecDepth 20000 in
theorem kc_X10_opensText : jx_mem (Cond.code yX10_opensText cX10_opensText 1 none) := jx_mm7 (jx_tp 40 rfl) rfl
set_option maxRecDepth 20000 in
theorem kX10_185 : jx_mem (Cond.methodLink RX10 185 yX10_goesOn) := jx_mm7 (jx_tp 41 rfl) rfl
set_option maxRecDepth 20000 in
theorem kim_X10_goesOn : jx_mem (Cond.instanceMethod yX10_goesOn) := jx_mm7 (jx_tp 43 rfl) rfl
set_option maxRecDepth 20000 in
theorem kc_X10_goesOn : jx_mem (Cond.code yX10_goesOn cX10_goesOn 1 none) := jx_mm7 (jx_tp 44 rfl) rfl
set_option maxRecDepth 20000 in
theorem kX10_152 : jx_mem (Cond.methodLink RX10 152 yX10_see) := jx_mm7 (jx_tp 45 rfl) rfl
set_option maxRecDepth 20000 in
theorem kim_X10_see : jx_mem (Cond.instanceMethod yX10_see) := jx_mm7 (jx_tp 47 rfl) rfl
set_option maxRecDepth 20000 in
theorem kc_X10_see : jx_mem (Cond.code yX10_see cX10_see 1 (some .int)) := jx_mm7 (jx_tp 48 rfl) rfl
set_option maxRecDepth 20000 in
theorem kX10_158 : jx_mem (Cond.methodLink RX10 158 yX10_isSmall) := jx_mm7 (jx_tp 49 rfl) rfl
set_option maxRecDepth 20000 in
theorem kim_X10_isSmall : jx_mem (Cond.instanceMethod yX10_isSmall) := jx_mm7 (jx_tp 51 rfl) rfl
set_option maxRecDepth 20000 in
theorem kc_X10_isSmall : jx_mem (Cond.code yX10_isSmall cX10_isSmall 1 (some .boolean)) := jx_mm7 (jx_tp 52 rfl) rfl
set_option maxRecDepth 20000 in
theorem kX10_162 : jx_mem (Cond.methodLink RX10 162 yX10_isDigit) := jx_mm7 (jx_tp 53 rfl) rfl
set_option maxRecDepth 20000 in
theorem kim_X10_isDigit : jx_mem (Cond.instanceMethod yX10_isDigit) := jx_mm7 (jx_tp 55 rfl) rfl
set_option maxRecDepth 20000 in
theorem kc_X10_isDigit : jx_mem (Cond.code yX10_isDigit cX10_isDigit 1 (some .boolean)) := jx_mm7 (jx_tp 56 rfl) rfl
set_option maxRecDepth 20000 in
theorem kX10_165 : jx_mem (Cond.methodLink RX10 165 yX10_signOf) := jx_mm7 (jx_tp 57 rfl) rfl
set_option maxRecDepth 20000 in
theorem kim_X10_signOf : jx_mem (Cond.instanceMethod yX10_signOf) := jx_mm7 (jx_tp 59 rfl) rfl
set_option maxRecDepth 20000 in
theorem kc_X10_signOf : jx_mem (Cond.code yX10_signOf cX10_signOf 2 (some .int)) := jx_mm7 (jx_tp 60 rfl) rfl
set_option maxRecDepth 20000 in
theorem kX10_247 : jx_mem (Cond.methodLink RX10 247 yX10_readStatement) := jx_mm7 (jx_tp 61 rfl) rfl
set_option maxRecDepth 20000 in
theorem kim_X10_readStatement : jx_mem (Cond.instanceMethod yX10_readStatement) := jx_mm7 (jx_tp 63 rfl) rfl
set_option maxRecDepth 20000 in
theorem kc_X10_readStatement : jx_mem (Cond.code yX10_readStatement cX10_readStatement 3 none) := jx_mm7 (jx_tp 64 rfl) rfl
set_option maxRecDepth 20000 in
theorem kX10_214 : jx_mem (Cond.methodLink RX10 214 yX10_wordHere) := jx_mm7 (jx_tp 65 rfl) rfl
set_option maxRecDepth 20000 in
theorem kim_X10_wordHere : jx_mem (Cond.instanceMethod yX10_wordHere) := jx_mm7 (jx_tp 67 rfl) rfl
set_option maxRecDepth 20000 in
theorem kc_X10_wordHere : jx_mem (Cond.code yX10_wordHere cX10_wordHere 5 (some .int)) := jx_mm7 (jx_tp 68 rfl) rfl
set_option maxRecDepth 20000 in
theorem kX10_192 : jx_mem (Cond.methodLink RX10 192 yX10_must) := jx_mm7 (jx_tp 69 rfl) rfl
set_option maxRecDepth 20000 in
theorem kim_X10_must : jx_mem (Cond.instanceMethod yX10_must) := jx_mm7 (jx_tp 71 rfl) rfl
set_option maxRecDepth 20000 in
theorem kc_X10_must : jx_mem (Cond.code yX10_must cX10_must 3 none) := jx_mm7 (jx_tp 72 rfl) rfl
set_option maxRecDepth 20000 in
theorem kX10_178 : jx_mem (Cond.methodLink RX10 178 yX10_fails) := jx_mm7 (jx_tp 73 rfl) rfl
set_option maxRecDepth 20000 in
theorem kim_X10_fails : jx_mem (Cond.instanceMethod yX10_fails) := jx_mm7 (jx_tp 75 rfl) rfl
set_option maxRecDepth 20000 in
theorem kc_X10_fails : jx_mem (Cond.code yX10_fails cX10_fails 2 none) := jx_mm7 (jx_tp 76 rfl) rfl
set_option maxRecDepth 20000 in
theorem kX10_232 : jx_mem (Cond.methodLink RX10 232 yX10_readPrime) := jx_mm7 (jx_tp 77 rfl) rfl
set_option maxRecDepth 20000 in
theorem kim_X10_readPrime : jx_mem (Cond.instanceMethod yX10_readPrime) := jx_mm7 (jx_tp 79 rfl) rfl
set_option maxRecDepth 20000 in
theorem kc_X10_readPrime : jx_mem (Cond.code yX10_readPrime cX10_readPrime 2 none) := jx_mm7 (jx_tp 80 rfl) rfl
set_option maxRecDepth 20000 in
theorem kX10_182 : jx_mem (Cond.methodLink RX10 182 yX10_looks) := jx_mm7 (jx_tp 81 rfl) rfl
set_option maxRecDepth 20000 in
theorem kim_X10_looks : jx_mem (Cond.instanceMethod yX10_looks) := jx_mm7 (jx_tp 83 rfl) rfl
set_option maxRecDepth 20000 in
theorem kc_X10_looks : jx_mem (Cond.code yX10_looks cX10_looks 3 none) := jx_mm7 (jx_tp 84 rfl) rfl
set_option maxRecDepth 20000 in
theorem kX10_188 : jx_mem (Cond.methodLink RX10 188 yX10_isPrime) := jx_mm7 (jx_tp 85 rfl) rfl
set_option maxRecDepth 20000 in
theorem kim_X10_isPrime : jx_mem (Cond.instanceMethod yX10_isPrime) := jx_mm7 (jx_tp 87 rfl) rfl
set_option maxRecDepth 20000 in
theorem kc_X10_isPrime : jx_mem (Cond.code yX10_isPrime cX10_isPrime 4 (some .boolean)) := jx_mm7 (jx_tp 88 rfl) rfl
set_option maxRecDepth 20000 in
theorem kX10_196 : jx_mem (Cond.methodLink RX10 196 yX10_reads) := jx_mm7 (jx_tp 89 rfl) rfl
set_option maxRecDepth 20000 in
theorem kim_X10_reads : jx_mem (Cond.instanceMethod yX10_reads) := jx_mm7 (jx_tp 91 rfl) rfl
set_option maxRecDepth 20000 in
theorem kc_X10_reads : jx_mem (Cond.code yX10_reads cX10_reads 4 (some .int)) := jx_mm7 (jx_tp 92 rfl) rfl
set_option maxRecDepth 20000 in
theorem kX10_235 : jx_mem (Cond.methodLink RX10 235 yX10_readJoin) := jx_mm7 (jx_tp 93 rfl) rfl
set_option maxRecDepth 20000 in
theorem kim_X10_readJoin : jx_mem (Cond.instanceMethod yX10_readJoin) := jx_mm7 (jx_tp 95 rfl) rfl
set_option maxRecDepth 20000 in
theorem kc_X10_readJoin : jx_mem (Cond.code yX10_readJoin cX10_readJoin 4 none) := jx_mm7 (jx_tp 96 rfl) rfl
set_option maxRecDepth 20000 in
theorem kX10_199 : jx_mem (Cond.methodLink RX10 199 yX10_canJoin) := jx_mm7 (jx_tp 97 rfl) rfl
set_option maxRecDepth 20000 in
theorem kim_X10_canJoin : jx_mem (Cond.instanceMethod yX10_canJoin) := jx_mm7 (jx_tp 99 rfl) rfl
set_option maxRecDepth 20000 in
theorem kc_X10_canJoin : jx_mem (Cond.code yX10_canJoin cX10_canJoin 3 (some .boolean)) := jx_mm7 (jx_tp 100 rfl) rfl
set_option maxRecDepth 20000 in
theorem kX10_116 : jx_mem (Cond.methodLink RX10 116 yX10_hasDivisors) := jx_mm7 (jx_tp 101 rfl) rfl
set_option maxRecDepth 20000 in
theorem kim_X10_hasDivisors : jx_mem (Cond.instanceMethod yX10_hasDivisors) := jx_mm7 (jx_tp 103 rfl) rfl
set_option maxRecDepth 20000 in
theorem kc_X10_hasDivisors : jx_mem (Cond.code yX10_hasDivisors cX10_hasDivisors 3 (some .boolean)) := jx_mm7 (jx_tp 104 rfl) rfl
set_option maxRecDepth 20000 in
theorem kX10_202 : jx_mem (Cond.methodLink RX10 202 yX10_joins) := jx_mm7 (jx_tp 105 rfl) rfl
set_option maxRecDepth 20000 in
theorem kim_X10_joins : jx_mem (Cond.instanceMethod yX10_joins) := jx_mm7 (jx_tp 107 rfl) rfl
set_option maxRecDepth 20000 in
theorem kc_X10_joins : jx_mem (Cond.code yX10_joins cX10_joins 4 (some .int)) := jx_mm7 (jx_tp 108 rfl) rfl
set_option maxRecDepth 20000 in
theorem kX10_140 : jx_mem (Cond.methodLink RX10 140 yX10_placed) := jx_mm7 (jx_tp 109 rfl) rfl
set_option maxRecDepth 20000 in
theorem kim_X10_placed : jx_mem (Cond.instanceMethod yX10_placed) := jx_mm7 (jx_tp 111 rfl) rfl
set_option maxRecDepth 20000 in
theorem kc_X10_placed : jx_mem (Cond.code yX10_placed cX10_placed 4 (some .int)) := jx_mm7 (jx_tp 112 rfl) rfl
set_option maxRecDepth 20000 in
theorem kX10_143 : jx_mem (Cond.methodLink RX10 143 yX10_laysAgain) := jx_mm7 (jx_tp 113 rfl) rfl
set_option maxRecDepth 20000 in
theorem kim_X10_laysAgain : jx_mem (Cond.instanceMethod yX10_laysAgain) := jx_mm7 (jx_tp 115 rfl) rfl
set_option maxRecDepth 20000 in
theorem kc_X10_laysAgain : jx_mem (Cond.code yX10_laysAgain cX10_laysAgain 3 none) := jx_mm7 (jx_tp 116 rfl) rfl
set_option maxRecDepth 20000 in
theorem kX10_130 : jx_mem (Cond.methodLink RX10 130 yX10_ruleAt) := jx_mm7 (jx_tp 117 rfl) rfl
set_option maxRecDepth 20000 in
theorem kst_X10_ruleAt : jx_mem (Cond.static yX10_ruleAt) := jx_mm7 (jx_tp 118 rfl) rfl
set_option maxRecDepth 20000 in
theorem kc_X10_ruleAt : jx_mem (Cond.code yX10_ruleAt cX10_ruleAt 2 (some .int)) := jx_mm7 (jx_tp 119 rfl) rfl
set_option maxRecDepth 20000 in
theorem kX10_133 : jx_mem (Cond.methodLink RX10 133 yX10_ruleBefore) := jx_mm7 (jx_tp 120 rfl) rfl
set_option maxRecDepth 20000 in
theorem kim_X10_ruleBefore : jx_mem (Cond.instanceMethod yX10_ruleBefore) := jx_mm7 (jx_tp 122 rfl) rfl
set_option maxRecDepth 20000 in
theorem kc_X10_ruleBefore : jx_mem (Cond.code yX10_ruleBefore cX10_ruleBefore 6 (some .int)) := jx_mm7 (jx_tp 123 rfl) rfl
set_option maxRecDepth 20000 in
theorem kX10_238 : jx_mem (Cond.methodLink RX10 238 yX10_readRule) := jx_mm7 (jx_tp 124 rfl) rfl
set_option maxRecDepth 20000 in
theorem kim_X10_readRule : jx_mem (Cond.instanceMethod yX10_readRule) := jx_mm7 (jx_tp 126 rfl) rfl
set_option maxRecDepth 20000 in
theorem kc_X10_readRule : jx_mem (Cond.code yX10_readRule cX10_readRule 8 none) := jx_mm7 (jx_tp 127 rfl) rfl
set_option maxRecDepth 20000 in
theorem kX10_217 : jx_mem (Cond.methodLink RX10 217 yX10_isTermHere) := jx_mm7 (jx_tp 128 rfl) rfl
set_option maxRecDepth 20000 in
theorem kim_X10_isTermHere : jx_mem (Cond.instanceMethod yX10_isTermHere) := jx_mm7 (jx_tp 130 rfl) rfl
set_option maxRecDepth 20000 in
theorem kc_X10_isTermHere : jx_mem (Cond.code yX10_isTermHere cX10_isTermHere 1 (some .boolean)) := jx_mm7 (jx_tp 131 rfl) rfl
set_option maxRecDepth 20000 in
theorem kX10_220 : jx_mem (Cond.methodLink RX10 220 yX10_readTerm) := jx_mm7 (jx_tp 132 rfl) rfl
set_option maxRecDepth 20000 in
theorem kim_X10_readTerm : jx_mem (Cond.instanceMethod yX10_readTerm) := jx_mm7 (jx_tp 134 rfl) rfl
set_option maxRecDepth 20000 in
theorem kc_X10_readTerm : jx_mem (Cond.code yX10_readTerm cX10_readTerm 4 none) := jx_mm7 (jx_tp 135 rfl) rfl
set_option maxRecDepth 20000 in
theorem kX10_205 : jx_mem (Cond.methodLink RX10 205 yX10_mod) := jx_mm7 (jx_tp 136 rfl) rfl
set_option maxRecDepth 20000 in
theorem kim_X10_mod : jx_mem (Cond.instanceMethod yX10_mod) := jx_mm7 (jx_tp 138 rfl) rfl
set_option maxRecDepth 20000 in
theorem kc_X10_mod : jx_mem (Cond.code yX10_mod cX10_mod 3 (some .int)) := jx_mm7 (jx_tp 139 rfl) rfl
set_option maxRecDepth 20000 in
theorem kX10_97 : jx_mem (Cond.methodLink RX10 97 yX10_p) := jx_mm7 (jx_tp 140 rfl) rfl
set_option maxRecDepth 20000 in
theorem kim_X10_p : jx_mem (Cond.instanceMethod yX10_p) := jx_mm7 (jx_tp 142 rfl) rfl
set_option maxRecDepth 20000 in
theorem kc_X10_p : jx_mem (Cond.code yX10_p cX10_p 1 (some .int)) := jx_mm7 (jx_tp 143 rfl) rfl
set_option maxRecDepth 20000 in
theorem kX10_223 : jx_mem (Cond.methodLink RX10 223 yX10_hasComma) := jx_mm7 (jx_tp 144 rfl) rfl
set_option maxRecDepth 20000 in
theorem kim_X10_hasComma : jx_mem (Cond.instanceMethod yX10_hasComma) := jx_mm7 (jx_tp 146 rfl) rfl
set_option maxRecDepth 20000 in
theorem kc_X10_hasComma : jx_mem (Cond.code yX10_hasComma cX10_hasComma 2 (some .boolean)) := jx_mm7 (jx_tp 147 rfl) rfl
set_option maxRecDepth 20000 in
theorem kX10_241 : jx_mem (Cond.methodLink RX10 241 yX10_readPoint) := jx_mm7 (jx_tp 148 rfl) rfl
set_option maxRecDepth 20000 in
theorem kim_X10_readPoint : jx_mem (Cond.instanceMethod yX10_readPoint) := jx_mm7 (jx_tp 150 rfl) rfl
set_option maxRecDepth 20000 in
theorem kc_X10_readPoint : jx_mem (Cond.code yX10_readPoint cX10_readPoint 4 none) := jx_mm7 (jx_tp 151 rfl) rfl
set_option maxRecDepth 20000 in
theorem kX10_226 : jx_mem (Cond.methodLink RX10 226 yX10_pointAt) := jx_mm7 (jx_tp 152 rfl) rfl
set_option maxRecDepth 20000 in
theorem kim_X10_pointAt : jx_mem (Cond.instanceMethod yX10_pointAt) := jx_mm7 (jx_tp 154 rfl) rfl
set_option maxRecDepth 20000 in
theorem kc_X10_pointAt : jx_mem (Cond.code yX10_pointAt cX10_pointAt 4 (some .int)) := jx_mm7 (jx_tp 155 rfl) rfl
set_option maxRecDepth 20000 in
theorem kX10_229 : jx_mem (Cond.methodLink RX10 229 yX10_putsPoint) := jx_mm7 (jx_tp 156 rfl) rfl
set_option maxRecDepth 20000 in
theorem kim_X10_putsPoint : jx_mem (Cond.instanceMethod yX10_putsPoint) := jx_mm7 (jx_tp 158 rfl) rfl
set_option maxRecDepth 20000 in
theorem kc_X10_putsPoint : jx_mem (Cond.code yX10_putsPoint cX10_putsPoint 4 (some .int)) := jx_mm7 (jx_tp 159 rfl) rfl
set_option maxRecDepth 20000 in
theorem kL_131 : jx_mem (Cond.methodLink RL 131 yX10_errorCode) := jx_mm7 (jx_tp 160 rfl) rfl
set_option maxRecDepth 20000 in
theorem kim_X10_errorCode : jx_mem (Cond.instanceMethod yX10_errorCode) := jx_mm7 (jx_tp 161 rfl) rfl
set_option maxRecDepth 20000 in
theorem ksel_X10_errorCode : jx_mem (Cond.selects RX10 yX10_errorCode yX10_errorCode) := jx_mm7 (jx_tp 162 rfl) rfl
set_option maxRecDepth 20000 in
theorem kc_X10_errorCode : jx_mem (Cond.code yX10_errorCode cX10_errorCode 1 (some .int)) := jx_mm7 (jx_tp 163 rfl) rfl
set_option maxRecDepth 20000 in
theorem kL_135 : jx_mem (Cond.methodLink RL 135 yX10_errorPosition) := jx_mm7 (jx_tp 164 rfl) rfl
set_option maxRecDepth 20000 in
theorem kim_X10_errorPosition : jx_mem (Cond.instanceMethod yX10_errorPosition) := jx_mm7 (jx_tp 165 rfl) rfl
set_option maxRecDepth 20000 in
theorem ksel_X10_errorPosition : jx_mem (Cond.selects RX10 yX10_errorPosition yX10_errorPosition) := jx_mm7 (jx_tp 166 rfl) rfl
set_option maxRecDepth 20000 in
theorem kc_X10_errorPosition : jx_mem (Cond.code yX10_errorPosition cX10_errorPosition 1 (some .int)) := jx_mm7 (jx_tp 167 rfl) rfl
set_option maxRecDepth 20000 in
theorem kL_127 : jx_mem (Cond.methodLink RL 127 yX10_reduce) := jx_mm7 (jx_tp 168 rfl) rfl
set_option maxRecDepth 20000 in
theorem kim_X10_reduce : jx_mem (Cond.instanceMethod yX10_reduce) := jx_mm7 (jx_tp 169 rfl) rfl
set_option maxRecDepth 20000 in
theorem ksel_X10_reduce : jx_mem (Cond.selects RX10 yX10_reduce yX10_reduce) := jx_mm7 (jx_tp 170 rfl) rfl
set_option maxRecDepth 20000 in
theorem kc_X10_reduce : jx_mem (Cond.code yX10_reduce cX10_reduce 4 (some .int)) := jx_mm7 (jx_tp 171 rfl) rfl
set_option maxRecDepth 20000 in
theorem kX10_261 : jx_mem (Cond.methodLink RX10 261 yX10_laysTables) := jx_mm7 (jx_tp 172 rfl) rfl
set_option maxRecDepth 20000 in
theorem kim_X10_laysTables : jx_mem (Cond.instanceMethod yX10_laysTables) := jx_mm7 (jx_tp 174 rfl) rfl
set_option maxRecDepth 20000 in
theorem kc_X10_laysTables : jx_mem (Cond.code yX10_laysTables cX10_laysTables 1 none) := jx_mm7 (jx_tp 175 rfl) rfl
set_option maxRecDepth 20000 in
theorem kX10_257 : jx_mem (Cond.methodLink RX10 257 yX10_laysTable) := jx_mm7 (jx_tp 176 rfl) rfl
set_option maxRecDepth 20000 in
theorem kim_X10_laysTable : jx_mem (Cond.instanceMethod yX10_laysTable) := jx_mm7 (jx_tp 178 rfl) rfl
set_option maxRecDepth 20000 in
theorem kc_X10_laysTable : jx_mem (Cond.code yX10_laysTable cX10_laysTable 9 none) := jx_mm7 (jx_tp 179 rfl) rfl
set_option maxRecDepth 20000 in
theorem kX10_254 : jx_mem (Cond.methodLink RX10 254 yX10_cell) := jx_mm7 (jx_tp 180 rfl) rfl
set_option maxRecDepth 20000 in
theorem kst_X10_cell : jx_mem (Cond.static yX10_cell) := jx_mm7 (jx_tp 181 rfl) rfl
set_option maxRecDepth 20000 in
theorem kc_X10_cell : jx_mem (Cond.code yX10_cell cX10_cell 2 (some .int)) := jx_mm7 (jx_tp 182 rfl) rfl
set_option maxRecDepth 20000 in
theorem kX10_310 : jx_mem (Cond.methodLink RX10 310 yX10_laysNormal) := jx_mm7 (jx_tp 183 rfl) rfl
set_option maxRecDepth 20000 in
theorem kim_X10_laysNormal : jx_mem (Cond.instanceMethod yX10_laysNormal) := jx_mm7 (jx_tp 185 rfl) rfl
set_option maxRecDepth 20000 in
theorem kc_X10_laysNormal : jx_mem (Cond.code yX10_laysNormal cX10_laysNormal 4 none) := jx_mm7 (jx_tp 186 rfl) rfl
set_option maxRecDepth 20000 in
theorem kX10_307 : jx_mem (Cond.methodLink RX10 307 yX10_applies) := jx_mm7 (jx_tp 187 rfl) rfl
set_option maxRecDepth 20000 in
theorem kim_X10_applies : jx_mem (Cond.instanceMethod yX10_applies) := jx_mm7 (jx_tp 189 rfl) rfl
set_option maxRecDepth 20000 in
theorem kc_X10_applies : jx_mem (Cond.code yX10_applies cX10_applies 5 none) := jx_mm7 (jx_tp 190 rfl) rfl
set_option maxRecDepth 20000 in
theorem kX10_313 : jx_mem (Cond.methodLink RX10 313 yX10_addsColumn) := jx_mm7 (jx_tp 191 rfl) rfl
set_option maxRecDepth 20000 in
theorem kim_X10_addsColumn : jx_mem (Cond.instanceMethod yX10_addsColumn) := jx_mm7 (jx_tp 193 rfl) rfl
set_option maxRecDepth 20000 in
theorem kc_X10_addsColumn : jx_mem (Cond.code yX10_addsColumn cX10_addsColumn 2 none) := jx_mm7 (jx_tp 194 rfl) rfl
set_option maxRecDepth 20000 in
theorem kL_138 : jx_mem (Cond.methodLink RL 138 yX10_result) := jx_mm7 (jx_tp 195 rfl) rfl
set_option maxRecDepth 20000 in
theorem kim_X10_result : jx_mem (Cond.instanceMethod yX10_result) := jx_mm7 (jx_tp 196 rfl) rfl
set_option maxRecDepth 20000 in
theorem ksel_X10_result : jx_mem (Cond.selects RX10 yX10_result yX10_result) := jx_mm7 (jx_tp 197 rfl) rfl
set_option maxRecDepth 20000 in
theorem kc_X10_result : jx_mem (Cond.code yX10_result cX10_result 2 (some .int)) := jx_mm7 (jx_tp 198 rfl) rfl
set_option maxRecDepth 20000 in
theorem kL_141 : jx_mem (Cond.methodLink RL 141 yX10_count) := jx_mm7 (jx_tp 199 rfl) rfl
set_option maxRecDepth 20000 in
theorem kim_X10_count : jx_mem (Cond.instanceMethod yX10_count) := jx_mm7 (jx_tp 200 rfl) rfl
set_option maxRecDepth 20000 in
theorem ksel_X10_count : jx_mem (Cond.selects RX10 yX10_count yX10_count) := jx_mm7 (jx_tp 201 rfl) rfl
set_option maxRecDepth 20000 in
theorem kc_X10_count : jx_mem (Cond.code yX10_count cX10_count 2 (some .int)) := jx_mm7 (jx_tp 202 rfl) rfl
set_option maxRecDepth 20000 in
theorem kX10_337 : jx_mem (Cond.methodLink RX10 337 yX10_filled) := jx_mm7 (jx_tp 203 rfl) rfl
set_option maxRecDepth 20000 in
theorem kim_X10_filled : jx_mem (Cond.instanceMethod yX10_filled) := jx_mm7 (jx_tp 205 rfl) rfl
set_option maxRecDepth 20000 in
theorem kc_X10_filled : jx_mem (Cond.code yX10_filled cX10_filled 4 (some .int)) := jx_mm7 (jx_tp 206 rfl) rfl
set_option maxRecDepth 20000 in
theorem kX10_340 : jx_mem (Cond.methodLink RX10 340 yX10_movable) := jx_mm7 (jx_tp 207 rfl) rfl
set_option maxRecDepth 20000 in
theorem kim_X10_movable : jx_mem (Cond.instanceMethod yX10_movable) := jx_mm7 (jx_tp 209 rfl) rfl
set_option maxRecDepth 20000 in
theorem kc_X10_movable : jx_mem (Cond.code yX10_movable cX10_movable 5 (some .int)) := jx_mm7 (jx_tp 210 rfl) rfl
set_option maxRecDepth 20000 in
theorem kX10_334 : jx_mem (Cond.methodLink RX10 334 yX10_canLeave) := jx_mm7 (jx_tp 211 rfl) rfl
set_option maxRecDepth 20000 in
theorem kim_X10_canLeave : jx_mem (Cond.instanceMethod yX10_canLeave) := jx_mm7 (jx_tp 213 rfl) rfl
set_option maxRecDepth 20000 in
theorem kc_X10_canLeave : jx_mem (Cond.code yX10_canLeave cX10_canLeave 3 (some .boolean)) := jx_mm7 (jx_tp 214 rfl) rfl
set_option maxRecDepth 20000 in
theorem kL_144 : jx_mem (Cond.methodLink RL 144 yX10_changes) := jx_mm7 (jx_tp 215 rfl) rfl
set_option maxRecDepth 20000 in
theorem kim_X10_changes : jx_mem (Cond.instanceMethod yX10_changes) := jx_mm7 (jx_tp 216 rfl) rfl
set_option maxRecDepth 20000 in
theorem ksel_X10_changes : jx_mem (Cond.selects RX10 yX10_changes yX10_changes) := jx_mm7 (jx_tp 217 rfl) rfl
set_option maxRecDepth 20000 in
theorem kc_X10_changes : jx_mem (Cond.code yX10_changes cX10_changes 2 (some .int)) := jx_mm7 (jx_tp 218 rfl) rfl
set_option maxRecDepth 20000 in
theorem kL_148 : jx_mem (Cond.methodLink RL 148 yX10_refusal) := jx_mm7 (jx_tp 219 rfl) rfl
set_option maxRecDepth 20000 in
theorem kim_X10_refusal : jx_mem (Cond.instanceMethod yX10_refusal) := jx_mm7 (jx_tp 220 rfl) rfl
set_option maxRecDepth 20000 in
theorem ksel_X10_refusal : jx_mem (Cond.selects RX10 yX10_refusal yX10_refusal) := jx_mm7 (jx_tp 221 rfl) rfl
set_option maxRecDepth 20000 in
theorem kc_X10_refusal : jx_mem (Cond.code yX10_refusal cX10_refusal 3 (some .int)) := jx_mm7 (jx_tp 222 rfl) rfl
set_option maxRecDepth 20000 in
theorem kX10_344 : jx_mem (Cond.methodLink RX10 344 yX10_isOnSide) := jx_mm7 (jx_tp 223 rfl) rfl
set_option maxRecDepth 20000 in
theorem kst_X10_isOnSide : jx_mem (Cond.static yX10_isOnSide) := jx_mm7 (jx_tp 224 rfl) rfl
set_option maxRecDepth 20000 in
theorem kc_X10_isOnSide : jx_mem (Cond.code yX10_isOnSide cX10_isOnSide 2 (some .boolean)) := jx_mm7 (jx_tp 225 rfl) rfl
set_option maxRecDepth 20000 in
theorem kL_151 : jx_mem (Cond.methodLink RL 151 yX10_join) := jx_mm7 (jx_tp 226 rfl) rfl
set_option maxRecDepth 20000 in
theorem kim_X10_join : jx_mem (Cond.instanceMethod yX10_join) := jx_mm7 (jx_tp 227 rfl) rfl
set_option maxRecDepth 20000 in
theorem ksel_X10_join : jx_mem (Cond.selects RX10 yX10_join yX10_join) := jx_mm7 (jx_tp 228 rfl) rfl
set_option maxRecDepth 20000 in
theorem kc_X10_join : jx_mem (Cond.code yX10_join cX10_join 3 (some .int)) := jx_mm7 (jx_tp 229 rfl) rfl
set_option maxRecDepth 20000 in
theorem kX10_347 : jx_mem (Cond.methodLink RX10 347 yX10_keeps) := jx_mm7 (jx_tp 230 rfl) rfl
set_option maxRecDepth 20000 in
theorem kim_X10_keeps : jx_mem (Cond.instanceMethod yX10_keeps) := jx_mm7 (jx_tp 232 rfl) rfl
set_option maxRecDepth 20000 in
theorem kc_X10_keeps : jx_mem (Cond.code yX10_keeps cX10_keeps 3 none) := jx_mm7 (jx_tp 233 rfl) rfl
set_option maxRecDepth 20000 in
theorem kL_154 : jx_mem (Cond.methodLink RL 154 yX10_leave) := jx_mm7 (jx_tp 234 rfl) rfl
set_option maxRecDepth 20000 in
theorem kim_X10_leave : jx_mem (Cond.instanceMethod yX10_leave) := jx_mm7 (jx_tp 235 rfl) rfl
set_option maxRecDepth 20000 in
theorem ksel_X10_leave : jx_mem (Cond.selects RX10 yX10_leave yX10_leave) := jx_mm7 (jx_tp 236 rfl) rfl
set_option maxRecDepth 20000 in
theorem kc_X10_leave : jx_mem (Cond.code yX10_leave cX10_leave 3 (some .int)) := jx_mm7 (jx_tp 237 rfl) rfl
set_option maxRecDepth 20000 in
theorem kX10_350 : jx_mem (Cond.methodLink RX10 350 yX10_leaves) := jx_mm7 (jx_tp 238 rfl) rfl
set_option maxRecDepth 20000 in
theorem kim_X10_leaves : jx_mem (Cond.instanceMethod yX10_leaves) := jx_mm8 (jx_tp 0 rfl) rfl
set_option maxRecDepth 20000 in
theorem kc_X10_leaves : jx_mem (Cond.code yX10_leaves cX10_leaves 5 (some .int)) := jx_mm8 (jx_tp 1 rfl) rfl
set_option maxRecDepth 20000 in
theorem kL_157 : jx_mem (Cond.methodLink RL 157 yX10_monomial) := jx_mm8 (jx_tp 2 rfl) rfl
set_option maxRecDepth 20000 in
theorem kim_X10_monomial : jx_mem (Cond.instanceMethod yX10_monomial) := jx_mm8 (jx_tp 3 rfl) rfl
set_option maxRecDepth 20000 in
theorem ksel_X10_monomial : jx_mem (Cond.selects RX10 yX10_monomial yX10_monomial) := jx_mm8 (jx_tp 4 rfl) rfl
set_option maxRecDepth 20000 in
theorem kc_X10_monomial : jx_mem (Cond.code yX10_monomial cX10_monomial 3 (some .int)) := jx_mm8 (jx_tp 5 rfl) rfl
set_option maxRecDepth 20000 in
theorem kX10_353 : jx_mem (Cond.methodLink RX10 353 yX10_isMonomial) := jx_mm8 (jx_tp 6 rfl) rfl
set_option maxRecDepth 20000 in
theorem kim_X10_isMonomial : jx_mem (Cond.instanceMethod yX10_isMonomial) := jx_mm8 (jx_tp 8 rfl) rfl
set_option maxRecDepth 20000 in
theorem kc_X10_isMonomial : jx_mem (Cond.code yX10_isMonomial cX10_isMonomial 2 (some .boolean)) := jx_mm8 (jx_tp 9 rfl) rfl
set_option maxRecDepth 20000 in
theorem kL_160 : jx_mem (Cond.methodLink RL 160 yX10_border) := jx_mm8 (jx_tp 10 rfl) rfl
set_option maxRecDepth 20000 in
theorem kim_X10_border : jx_mem (Cond.instanceMethod yX10_border) := jx_mm8 (jx_tp 11 rfl) rfl
set_option maxRecDepth 20000 in
theorem ksel_X10_border : jx_mem (Cond.selects RX10 yX10_border yX10_border) := jx_mm8 (jx_tp 12 rfl) rfl
set_option maxRecDepth 20000 in
theorem kc_X10_border : jx_mem (Cond.code yX10_border cX10_border 3 (some .int)) := jx_mm8 (jx_tp 13 rfl) rfl
set_option maxRecDepth 20000 in
theorem kX10_356 : jx_mem (Cond.methodLink RX10 356 yX10_isBorder) := jx_mm8 (jx_tp 14 rfl) rfl
set_option maxRecDepth 20000 in
theorem kim_X10_isBorder : jx_mem (Cond.instanceMethod yX10_isBorder) := jx_mm8 (jx_tp 16 rfl) rfl
set_option maxRecDepth 20000 in
theorem kc_X10_isBorder : jx_mem (Cond.code yX10_isBorder cX10_isBorder 2 (some .boolean)) := jx_mm8 (jx_tp 17 rfl) rfl
set_option maxRecDepth 20000 in
theorem kL_164 : jx_mem (Cond.methodLink RL 164 yX10_place) := jx_mm8 (jx_tp 18 rfl) rfl
set_option maxRecDepth 20000 in
theorem kim_X10_place : jx_mem (Cond.instanceMethod yX10_place) := jx_mm8 (jx_tp 19 rfl) rfl
set_option maxRecDepth 20000 in
theorem ksel_X10_place : jx_mem (Cond.selects RX10 yX10_place yX10_place) := jx_mm8 (jx_tp 20 rfl) rfl
set_option maxRecDepth 20000 in
theorem kc_X10_place : jx_mem (Cond.code yX10_place cX10_place 5 (some .int)) := jx_mm8 (jx_tp 21 rfl) rfl
set_option maxRecDepth 20000 in
theorem kL_168 : jx_mem (Cond.methodLink RL 168 yX10_setRule) := jx_mm8 (jx_tp 22 rfl) rfl
set_option maxRecDepth 20000 in
theorem kim_X10_setRule : jx_mem (Cond.instanceMethod yX10_setRule) := jx_mm8 (jx_tp 23 rfl) rfl
set_option maxRecDepth 20000 in
theorem ksel_X10_setRule : jx_mem (Cond.selects RX10 yX10_setRule yX10_setRule) := jx_mm8 (jx_tp 24 rfl) rfl
set_option maxRecDepth 20000 in
theorem kc_X10_setRule : jx_mem (Cond.code yX10_setRule cX10_setRule 5 (some .int)) := jx_mm8 (jx_tp 25 rfl) rfl
set_option maxRecDepth 20000 in
theorem kX10_359 : jx_mem (Cond.methodLink RX10 359 yX10_isNumber) := jx_mm8 (jx_tp 26 rfl) rfl
set_option maxRecDepth 20000 in
theorem kim_X10_isNumber : jx_mem (Cond.instanceMethod yX10_isNumber) := jx_mm8 (jx_tp 28 rfl) rfl
set_option maxRecDepth 20000 in
theorem kc_X10_isNumber : jx_mem (Cond.code yX10_isNumber cX10_isNumber 2 (some .boolean)) := jx_mm8 (jx_tp 29 rfl) rfl
set_option maxRecDepth 20000 in
theorem kL_171 : jx_mem (Cond.methodLink RL 171 yX10_rule) := jx_mm8 (jx_tp 30 rfl) rfl
set_option maxRecDepth 20000 in
theorem kim_X10_rule : jx_mem (Cond.instanceMethod yX10_rule) := jx_mm8 (jx_tp 31 rfl) rfl
set_option maxRecDepth 20000 in
theorem ksel_X10_rule : jx_mem (Cond.selects RX10 yX10_rule yX10_rule) := jx_mm8 (jx_tp 32 rfl) rfl
set_option maxRecDepth 20000 in
theorem kc_X10_rule : jx_mem (Cond.code yX10_rule cX10_rule 3 (some .int)) := jx_mm8 (jx_tp 33 rfl) rfl
set_option maxRecDepth 20000 in
theorem kL_174 : jx_mem (Cond.methodLink RL 174 yX10_value) := jx_mm8 (jx_tp 34 rfl) rfl
set_option maxRecDepth 20000 in
theorem kim_X10_value : jx_mem (Cond.instanceMethod yX10_value) := jx_mm8 (jx_tp 35 rfl) rfl
set_option maxRecDepth 20000 in
theorem ksel_X10_value : jx_mem (Cond.selects RX10 yX10_value yX10_value) := jx_mm8 (jx_tp 36 rfl) rfl
set_option maxRecDepth 20000 in
theorem kc_X10_value : jx_mem (Cond.code yX10_value cX10_value 4 (some .int)) := jx_mm8 (jx_tp 37 rfl) rfl
set_option maxRecDepth 20000 in
theorem kX10_316 : jx_mem (Cond.methodLink RX10 316 yX10_laysPowers) := jx_mm8 (jx_tp 38 rfl) rfl
set_option maxRecDepth 20000 in
theorem kim_X10_laysPowers : jx_mem (Cond.instanceMethod yX10_laysPowers) := jx_mm8 (jx_tp 40 rfl) rfl
set_option maxRecDepth 20000 in
theorem kc_X10_laysPowers : jx_mem (Cond.code yX10_laysPowers cX10_laysPowers 4 none) := jx_mm8 (jx_tp 41 rfl) rfl
set_option maxRecDepth 20000 in
theorem kX10_319 : jx_mem (Cond.methodLink RX10 319 yX10_valueOf) := jx_mm8 (jx_tp 42 rfl) rfl
set_option maxRecDepth 20000 in
theorem kim_X10_valueOf : jx_mem (Cond.instanceMethod yX10_valueOf) := jx_mm8 (jx_tp 44 rfl) rfl
set_option maxRecDepth 20000 in
theorem kc_X10_valueOf : jx_mem (Cond.code yX10_valueOf cX10_valueOf 5 (some .int)) := jx_mm8 (jx_tp 45 rfl) rfl
set_option maxRecDepth 20000 in
theorem kL_177 : jx_mem (Cond.methodLink RL 177 yX10_table) := jx_mm8 (jx_tp 46 rfl) rfl
set_option maxRecDepth 20000 in
theorem kim_X10_table : jx_mem (Cond.instanceMethod yX10_table) := jx_mm8 (jx_tp 47 rfl) rfl
set_option maxRecDepth 20000 in
theorem ksel_X10_table : jx_mem (Cond.selects RX10 yX10_table yX10_table) := jx_mm8 (jx_tp 48 rfl) rfl
set_option maxRecDepth 20000 in
theorem kc_X10_table : jx_mem (Cond.code yX10_table cX10_table 4 (some .int)) := jx_mm8 (jx_tp 49 rfl) rfl
set_option maxRecDepth 20000 in
theorem kX10_362 : jx_mem (Cond.methodLink RX10 362 yX10_isVariable) := jx_mm8 (jx_tp 50 rfl) rfl
set_option maxRecDepth 20000 in
theorem kst_X10_isVariable : jx_mem (Cond.static yX10_isVariable) := jx_mm8 (jx_tp 51 rfl) rfl
set_option maxRecDepth 20000 in
theorem kc_X10_isVariable : jx_mem (Cond.code yX10_isVariable cX10_isVariable 1 (some .boolean)) := jx_mm8 (jx_tp 52 rfl) rfl
set_option maxRecDepth 20000 in
theorem kL_182 : jx_mem (Cond.methodLink RL 182 yX10_commutes) := jx_mm8 (jx_tp 53 rfl) rfl
set_option maxRecDepth 20000 in
theorem kim_X10_commutes : jx_mem (Cond.instanceMethod yX10_commutes) := jx_mm8 (jx_tp 54 rfl) rfl
set_option maxRecDepth 20000 in
theorem ksel_X10_commutes : jx_mem (Cond.selects RX10 yX10_commutes yX10_commutes) := jx_mm8 (jx_tp 55 rfl) rfl
set_option maxRecDepth 20000 in
theorem kc_X10_commutes : jx_mem (Cond.code yX10_commutes cX10_commutes 1 (some .boolean)) := jx_mm8 (jx_tp 56 rfl) rfl
set_option maxRecDepth 20000 in
theorem kX10_365 : jx_mem (Cond.methodLink RX10 365 yX10_areFriends) := jx_mm8 (jx_tp 57 rfl) rfl
set_option maxRecDepth 20000 in
theorem kim_X10_areFriends : jx_mem (Cond.instanceMethod yX10_areFriends) := jx_mm8 (jx_tp 59 rfl) rfl
set_option maxRecDepth 20000 in
theorem kc_X10_areFriends : jx_mem (Cond.code yX10_areFriends cX10_areFriends 1 (some .boolean)) := jx_mm8 (jx_tp 60 rfl) rfl
set_option maxRecDepth 20000 in
theorem kX10_268 : jx_mem (Cond.methodLink RX10 268 yX10_differences) := jx_mm8 (jx_tp 61 rfl) rfl
set_option maxRecDepth 20000 in
theorem kim_X10_differences : jx_mem (Cond.instanceMethod yX10_differences) := jx_mm8 (jx_tp 63 rfl) rfl
set_option maxRecDepth 20000 in
theorem kc_X10_differences : jx_mem (Cond.code yX10_differences cX10_differences 4 (some .int)) := jx_mm8 (jx_tp 64 rfl) rfl
set_option maxRecDepth 20000 in
theorem kX10_264 : jx_mem (Cond.methodLink RX10 264 yX10_multiplies) := jx_mm8 (jx_tp 65 rfl) rfl
set_option maxRecDepth 20000 in
theorem kim_X10_multiplies : jx_mem (Cond.instanceMethod yX10_multiplies) := jx_mm8 (jx_tp 67 rfl) rfl
set_option maxRecDepth 20000 in
theorem kc_X10_multiplies : jx_mem (Cond.code yX10_multiplies cX10_multiplies 8 none) := jx_mm8 (jx_tp 68 rfl) rfl
set_option maxRecDepth 20000 in
theorem kL_185 : jx_mem (Cond.methodLink RL 185 yX10_clash) := jx_mm8 (jx_tp 69 rfl) rfl
set_option maxRecDepth 20000 in
theorem kim_X10_clash : jx_mem (Cond.instanceMethod yX10_clash) := jx_mm8 (jx_tp 70 rfl) rfl
set_option maxRecDepth 20000 in
theorem ksel_X10_clash : jx_mem (Cond.selects RX10 yX10_clash yX10_clash) := jx_mm8 (jx_tp 71 rfl) rfl
set_option maxRecDepth 20000 in
theorem kc_X10_clash : jx_mem (Cond.code yX10_clash cX10_clash 5 (some .int)) := jx_mm8 (jx_tp 72 rfl) rfl
set_option maxRecDepth 20000 in
theorem kL_188 : jx_mem (Cond.methodLink RL 188 yX10_trace) := jx_mm8 (jx_tp 73 rfl) rfl
set_option maxRecDepth 20000 in
theorem kim_X10_trace : jx_mem (Cond.instanceMethod yX10_trace) := jx_mm8 (jx_tp 74 rfl) rfl
set_option maxRecDepth 20000 in
theorem ksel_X10_trace : jx_mem (Cond.selects RX10 yX10_trace yX10_trace) := jx_mm8 (jx_tp 75 rfl) rfl
set_option maxRecDepth 20000 in
theorem kc_X10_trace : jx_mem (Cond.code yX10_trace cX10_trace 3 (some .int)) := jx_mm8 (jx_tp 76 rfl) rfl
set_option maxRecDepth 20000 in
theorem kX10_368 : jx_mem (Cond.methodLink RX10 368 yX10_arePowers) := jx_mm8 (jx_tp 77 rfl) rfl
set_option maxRecDepth 20000 in
theorem kst_X10_arePowers : jx_mem (Cond.static yX10_arePowers) := jx_mm8 (jx_tp 78 rfl) rfl
set_option maxRecDepth 20000 in
theorem kc_X10_arePowers : jx_mem (Cond.code yX10_arePowers cX10_arePowers 2 (some .boolean)) := jx_mm8 (jx_tp 79 rfl) rfl
set_option maxRecDepth 20000 in
theorem kX10_304 : jx_mem (Cond.methodLink RX10 304 yX10_traceOf) := jx_mm8 (jx_tp 80 rfl) rfl
set_option maxRecDepth 20000 in
theorem kim_X10_traceOf : jx_mem (Cond.instanceMethod yX10_traceOf) := jx_mm8 (jx_tp 82 rfl) rfl
set_option maxRecDepth 20000 in
theorem kc_X10_traceOf : jx_mem (Cond.code yX10_traceOf cX10_traceOf 5 (some .int)) := jx_mm8 (jx_tp 83 rfl) rfl
set_option maxRecDepth 20000 in
theorem kX10_279 : jx_mem (Cond.methodLink RX10 279 yX10_raises) := jx_mm8 (jx_tp 84 rfl) rfl
set_option maxRecDepth 20000 in
theorem kim_X10_raises : jx_mem (Cond.instanceMethod yX10_raises) := jx_mm8 (jx_tp 86 rfl) rfl
set_option maxRecDepth 20000 in
theorem kc_X10_raises : jx_mem (Cond.code yX10_raises cX10_raises 4 none) := jx_mm8 (jx_tp 87 rfl) rfl
set_option maxRecDepth 20000 in
theorem kX10_271 : jx_mem (Cond.methodLink RX10 271 yX10_laysOne) := jx_mm8 (jx_tp 88 rfl) rfl
set_option maxRecDepth 20000 in
theorem kim_X10_laysOne : jx_mem (Cond.instanceMethod yX10_laysOne) := jx_mm8 (jx_tp 90 rfl) rfl
set_option maxRecDepth 20000 in
theorem kc_X10_laysOne : jx_mem (Cond.code yX10_laysOne cX10_laysOne 3 none) := jx_mm8 (jx_tp 91 rfl) rfl
set_option maxRecDepth 20000 in
theorem kX10_275 : jx_mem (Cond.methodLink RX10 275 yX10_copiesCells) := jx_mm8 (jx_tp 92 rfl) rfl
set_option maxRecDepth 20000 in
theorem kim_X10_copiesCells : jx_mem (Cond.instanceMethod yX10_copiesCells) := jx_mm8 (jx_tp 94 rfl) rfl
set_option maxRecDepth 20000 in
theorem kc_X10_copiesCells : jx_mem (Cond.code yX10_copiesCells cX10_copiesCells 4 none) := jx_mm8 (jx_tp 95 rfl) rfl
set_option maxRecDepth 20000 in
theorem kL_191 : jx_mem (Cond.methodLink RL 191 yX10_normal) := jx_mm8 (jx_tp 96 rfl) rfl
set_option maxRecDepth 20000 in
theorem kim_X10_normal : jx_mem (Cond.instanceMethod yX10_normal) := jx_mm8 (jx_tp 97 rfl) rfl
set_option maxRecDepth 20000 in
theorem ksel_X10_normal : jx_mem (Cond.selects RX10 yX10_normal yX10_normal) := jx_mm8 (jx_tp 98 rfl) rfl
set_option maxRecDepth 20000 in
theorem kc_X10_normal : jx_mem (Cond.code yX10_normal cX10_normal 4 (some .int)) := jx_mm8 (jx_tp 99 rfl) rfl
set_option maxRecDepth 20000 in
theorem kL_194 : jx_mem (Cond.methodLink RL 194 yX10_determinant) := jx_mm8 (jx_tp 100 rfl) rfl
set_option maxRecDepth 20000 in
theorem kim_X10_determinant : jx_mem (Cond.instanceMethod yX10_determinant) := jx_mm8 (jx_tp 101 rfl) rfl
set_option maxRecDepth 20000 in
theorem ksel_X10_determinant : jx_mem (Cond.selects RX10 yX10_determinant yX10_determinant) := jx_mm8 (jx_tp 102 rfl) rfl
set_option maxRecDepth 20000 in
theorem kc_X10_determinant : jx_mem (Cond.code yX10_determinant cX10_determinant 2 (some .int)) := jx_mm8 (jx_tp 103 rfl) rfl
set_option maxRecDepth 20000 in
theorem kX10_298 : jx_mem (Cond.methodLink RX10 298 yX10_laysTall) := jx_mm8 (jx_tp 104 rfl) rfl
set_option maxRecDepth 20000 in
theorem kim_X10_laysTall : jx_mem (Cond.instanceMethod yX10_laysTall) := jx_mm8 (jx_tp 106 rfl) rfl
set_option maxRecDepth 20000 in
theorem kc_X10_laysTall : jx_mem (Cond.code yX10_laysTall cX10_laysTall 5 none) := jx_mm8 (jx_tp 107 rfl) rfl
set_option maxRecDepth 20000 in
theorem kX10_301 : jx_mem (Cond.methodLink RX10 301 yX10_reduces) := jx_mm8 (jx_tp 108 rfl) rfl
set_option maxRecDepth 20000 in
theorem kim_X10_reduces : jx_mem (Cond.instanceMethod yX10_reduces) := jx_mm8 (jx_tp 110 rfl) rfl
set_option maxRecDepth 20000 in
theorem kc_X10_reduces : jx_mem (Cond.code yX10_reduces cX10_reduces 8 none) := jx_mm8 (jx_tp 111 rfl) rfl
set_option maxRecDepth 20000 in
theorem kX10_289 : jx_mem (Cond.methodLink RX10 289 yX10_swapsRows) := jx_mm8 (jx_tp 112 rfl) rfl
set_option maxRecDepth 20000 in
theorem kim_X10_swapsRows : jx_mem (Cond.instanceMethod yX10_swapsRows) := jx_mm8 (jx_tp 114 rfl) rfl
set_option maxRecDepth 20000 in
theorem kc_X10_swapsRows : jx_mem (Cond.code yX10_swapsRows cX10_swapsRows 5 none) := jx_mm8 (jx_tp 115 rfl) rfl
set_option maxRecDepth 20000 in
theorem kX10_292 : jx_mem (Cond.methodLink RX10 292 yX10_inverse) := jx_mm8 (jx_tp 116 rfl) rfl
set_option maxRecDepth 20000 in
theorem kim_X10_inverse : jx_mem (Cond.instanceMethod yX10_inverse) := jx_mm8 (jx_tp 118 rfl) rfl
set_option maxRecDepth 20000 in
theorem kc_X10_inverse : jx_mem (Cond.code yX10_inverse cX10_inverse 4 (some .int)) := jx_mm8 (jx_tp 119 rfl) rfl
set_option maxRecDepth 20000 in
theorem kL_197 : jx_mem (Cond.methodLink RL 197 yX10_kernel) := jx_mm8 (jx_tp 120 rfl) rfl
set_option maxRecDepth 20000 in
theorem kim_X10_kernel : jx_mem (Cond.instanceMethod yX10_kernel) := jx_mm8 (jx_tp 121 rfl) rfl
set_option maxRecDepth 20000 in
theorem ksel_X10_kernel : jx_mem (Cond.selects RX10 yX10_kernel yX10_kernel) := jx_mm8 (jx_tp 122 rfl) rfl
set_option maxRecDepth 20000 in
theorem kc_X10_kernel : jx_mem (Cond.code yX10_kernel cX10_kernel 4 (some .int)) := jx_mm8 (jx_tp 123 rfl) rfl
set_option maxRecDepth 20000 in
theorem kX10_295 : jx_mem (Cond.methodLink RX10 295 yX10_lessens) := jx_mm8 (jx_tp 124 rfl) rfl
set_option maxRecDepth 20000 in
theorem kim_X10_lessens : jx_mem (Cond.instanceMethod yX10_lessens) := jx_mm8 (jx_tp 126 rfl) rfl
set_option maxRecDepth 20000 in
theorem kc_X10_lessens : jx_mem (Cond.code yX10_lessens cX10_lessens 4 none) := jx_mm8 (jx_tp 127 rfl) rfl
set_option maxRecDepth 20000 in
theorem kL_200 : jx_mem (Cond.methodLink RL 200 yX10_zeros) := jx_mm8 (jx_tp 128 rfl) rfl
set_option maxRecDepth 20000 in
theorem kim_X10_zeros : jx_mem (Cond.instanceMethod yX10_zeros) := jx_mm8 (jx_tp 129 rfl) rfl
set_option maxRecDepth 20000 in
theorem ksel_X10_zeros : jx_mem (Cond.selects RX10 yX10_zeros yX10_zeros) := jx_mm8 (jx_tp 130 rfl) rfl
set_option maxRecDepth 20000 in
theorem kc_X10_zeros : jx_mem (Cond.code yX10_zeros cX10_zeros 2 (some .int)) := jx_mm8 (jx_tp 131 rfl) rfl
set_option maxRecDepth 20000 in
theorem kX10_328 : jx_mem (Cond.methodLink RX10 328 yX10_laysZeros) := jx_mm8 (jx_tp 132 rfl) rfl
set_option maxRecDepth 20000 in
theorem kim_X10_laysZeros : jx_mem (Cond.instanceMethod yX10_laysZeros) := jx_mm8 (jx_tp 134 rfl) rfl
set_option maxRecDepth 20000 in
theorem kc_X10_laysZeros : jx_mem (Cond.code yX10_laysZeros cX10_laysZeros 3 none) := jx_mm8 (jx_tp 135 rfl) rfl
set_option maxRecDepth 20000 in
theorem kX10_325 : jx_mem (Cond.methodLink RX10 325 yX10_isZero) := jx_mm8 (jx_tp 136 rfl) rfl
set_option maxRecDepth 20000 in
theorem kim_X10_isZero : jx_mem (Cond.instanceMethod yX10_isZero) := jx_mm8 (jx_tp 138 rfl) rfl
set_option maxRecDepth 20000 in
theorem kc_X10_isZero : jx_mem (Cond.code yX10_isZero cX10_isZero 5 (some .boolean)) := jx_mm8 (jx_tp 139 rfl) rfl
set_option maxRecDepth 20000 in
theorem kX10_371 : jx_mem (Cond.methodLink RX10 371 yX10_distinct) := jx_mm8 (jx_tp 140 rfl) rfl
set_option maxRecDepth 20000 in
theorem kim_X10_distinct : jx_mem (Cond.instanceMethod yX10_distinct) := jx_mm8 (jx_tp 142 rfl) rfl
set_option maxRecDepth 20000 in
theorem kc_X10_distinct : jx_mem (Cond.code yX10_distinct cX10_distinct 3 (some .int)) := jx_mm8 (jx_tp 143 rfl) rfl
set_option maxRecDepth 20000 in
theorem kX10_374 : jx_mem (Cond.methodLink RX10 374 yX10_allTimes) := jx_mm8 (jx_tp 144 rfl) rfl
set_option maxRecDepth 20000 in
theorem kim_X10_allTimes : jx_mem (Cond.instanceMethod yX10_allTimes) := jx_mm8 (jx_tp 146 rfl) rfl
set_option maxRecDepth 20000 in
theorem kc_X10_allTimes : jx_mem (Cond.code yX10_allTimes cX10_allTimes 3 (some .int)) := jx_mm8 (jx_tp 147 rfl) rfl
set_option maxRecDepth 20000 in
theorem kX10_331 : jx_mem (Cond.methodLink RX10 331 yX10_times) := jx_mm8 (jx_tp 148 rfl) rfl
set_option maxRecDepth 20000 in
theorem kim_X10_times : jx_mem (Cond.instanceMethod yX10_times) := jx_mm8 (jx_tp 150 rfl) rfl
set_option maxRecDepth 20000 in
theorem kc_X10_times : jx_mem (Cond.code yX10_times cX10_times 3 (some .int)) := jx_mm8 (jx_tp 151 rfl) rfl
set_option maxRecDepth 20000 in
theorem kL_203 : jx_mem (Cond.methodLink RL 203 yX10_zero) := jx_mm8 (jx_tp 152 rfl) rfl
set_option maxRecDepth 20000 in
theorem kim_X10_zero : jx_mem (Cond.instanceMethod yX10_zero) := jx_mm8 (jx_tp 153 rfl) rfl
set_option maxRecDepth 20000 in
theorem ksel_X10_zero : jx_mem (Cond.selects RX10 yX10_zero yX10_zero) := jx_mm8 (jx_tp 154 rfl) rfl
set_option maxRecDepth 20000 in
theorem kc_X10_zero : jx_mem (Cond.code yX10_zero cX10_zero 3 (some .int)) := jx_mm8 (jx_tp 155 rfl) rfl
set_option maxRecDepth 20000 in
theorem kL_206 : jx_mem (Cond.methodLink RL 206 yX10_multiplicity) := jx_mm8 (jx_tp 156 rfl) rfl
set_option maxRecDepth 20000 in
theorem kim_X10_multiplicity : jx_mem (Cond.instanceMethod yX10_multiplicity) := jx_mm8 (jx_tp 157 rfl) rfl
set_option maxRecDepth 20000 in
theorem ksel_X10_multiplicity : jx_mem (Cond.selects RX10 yX10_multiplicity yX10_multiplicity) := jx_mm8 (jx_tp 158 rfl) rfl
set_option maxRecDepth 20000 in
theorem kc_X10_multiplicity : jx_mem (Cond.code yX10_multiplicity cX10_multiplicity 3 (some .int)) := jx_mm8 (jx_tp 159 rfl) rfl
set_option maxRecDepth 20000 in
theorem kL_211 : jx_mem (Cond.methodLink RL 211 yX10_share) := jx_mm8 (jx_tp 160 rfl) rfl
set_option maxRecDepth 20000 in
theorem kim_X10_share : jx_mem (Cond.instanceMethod yX10_share) := jx_mm8 (jx_tp 161 rfl) rfl
set_option maxRecDepth 20000 in
theorem ksel_X10_share : jx_mem (Cond.selects RX10 yX10_share yX10_share) := jx_mm8 (jx_tp 162 rfl) rfl
set_option maxRecDepth 20000 in
theorem kc_X10_share : jx_mem (Cond.code yX10_share cX10_share 1 (some .double)) := jx_mm8 (jx_tp 163 rfl) rfl
set_option maxRecDepth 20000 in
theorem kL_214 : jx_mem (Cond.methodLink RL 214 yX10_addPoint) := jx_mm8 (jx_tp 165 rfl) rfl
set_option maxRecDepth 20000 in
theorem kim_X10_addPoint : jx_mem (Cond.instanceMethod yX10_addPoint) := jx_mm8 (jx_tp 166 rfl) rfl
set_option maxRecDepth 20000 in
theorem ksel_X10_addPoint : jx_mem (Cond.selects RX10 yX10_addPoint yX10_addPoint) := jx_mm8 (jx_tp 167 rfl) rfl
set_option maxRecDepth 20000 in
theorem kc_X10_addPoint : jx_mem (Cond.code yX10_addPoint cX10_addPoint 3 (some .int)) := jx_mm8 (jx_tp 168 rfl) rfl
set_option maxRecDepth 20000 in
theorem kL_217 : jx_mem (Cond.methodLink RL 217 yX10_removePoint) := jx_mm8 (jx_tp 169 rfl) rfl
set_option maxRecDepth 20000 in
theorem kim_X10_removePoint : jx_mem (Cond.instanceMethod yX10_removePoint) := jx_mm8 (jx_tp 170 rfl) rfl
set_option maxRecDepth 20000 in
theorem ksel_X10_removePoint : jx_mem (Cond.selects RX10 yX10_removePoint yX10_removePoint) := jx_mm8 (jx_tp 171 rfl) rfl
set_option maxRecDepth 20000 in
theorem kc_X10_removePoint : jx_mem (Cond.code yX10_removePoint cX10_removePoint 3 (some .int)) := jx_mm8 (jx_tp 172 rfl) rfl
set_option maxRecDepth 20000 in
theorem kX10_379 : jx_mem (Cond.methodLink RX10 379 yX10_isPoint) := jx_mm8 (jx_tp 173 rfl) rfl
set_option maxRecDepth 20000 in
theorem kim_X10_isPoint : jx_mem (Cond.instanceMethod yX10_isPoint) := jx_mm8 (jx_tp 175 rfl) rfl
set_option maxRecDepth 20000 in
theorem kc_X10_isPoint : jx_mem (Cond.code yX10_isPoint cX10_isPoint 2 (some .boolean)) := jx_mm8 (jx_tp 176 rfl) rfl
set_option maxRecDepth 20000 in
theorem kL_220 : jx_mem (Cond.methodLink RL 220 yX10_point) := jx_mm8 (jx_tp 177 rfl) rfl
set_option maxRecDepth 20000 in
theorem kim_X10_point : jx_mem (Cond.instanceMethod yX10_point) := jx_mm8 (jx_tp 178 rfl) rfl
set_option maxRecDepth 20000 in
theorem ksel_X10_point : jx_mem (Cond.selects RX10 yX10_point yX10_point) := jx_mm8 (jx_tp 179 rfl) rfl
set_option maxRecDepth 20000 in
theorem kc_X10_point : jx_mem (Cond.code yX10_point cX10_point 5 (some .int)) := jx_mm8 (jx_tp 180 rfl) rfl
set_option maxRecDepth 20000 in
theorem kL_224 : jx_mem (Cond.methodLink RL 224 yX10_fit) := jx_mm8 (jx_tp 181 rfl) rfl
set_option maxRecDepth 20000 in
theorem kim_X10_fit : jx_mem (Cond.instanceMethod yX10_fit) := jx_mm8 (jx_tp 182 rfl) rfl
set_option maxRecDepth 20000 in
theorem ksel_X10_fit : jx_mem (Cond.selects RX10 yX10_fit yX10_fit) := jx_mm8 (jx_tp 183 rfl) rfl
set_option maxRecDepth 20000 in
theorem kc_X10_fit : jx_mem (Cond.code yX10_fit cX10_fit 1 (some .int)) := jx_mm8 (jx_tp 184 rfl) rfl
set_option maxRecDepth 20000 in
theorem kX10_395 : jx_mem (Cond.methodLink RX10 395 yX10_fits) := jx_mm8 (jx_tp 185 rfl) rfl
set_option maxRecDepth 20000 in
theorem kim_X10_fits : jx_mem (Cond.instanceMethod yX10_fits) := jx_mm8 (jx_tp 187 rfl) rfl
set_option maxRecDepth 20000 in
theorem kc_X10_fits : jx_mem (Cond.code yX10_fits cX10_fits 5 none) := jx_mm8 (jx_tp 188 rfl) rfl
set_option maxRecDepth 20000 in
theorem kX10_389 : jx_mem (Cond.methodLink RX10 389 yX10_isFresh) := jx_mm8 (jx_tp 189 rfl) rfl
set_option maxRecDepth 20000 in
theorem kim_X10_isFresh : jx_mem (Cond.instanceMethod yX10_isFresh) := jx_mm8 (jx_tp 191 rfl) rfl
set_option maxRecDepth 20000 in
theorem kc_X10_isFresh : jx_mem (Cond.code yX10_isFresh cX10_isFresh 6 (some .boolean)) := jx_mm8 (jx_tp 192 rfl) rfl
set_option maxRecDepth 20000 in
theorem kX10_382 : jx_mem (Cond.methodLink RX10 382 yX10_valueAt) := jx_mm8 (jx_tp 193 rfl) rfl
set_option maxRecDepth 20000 in
theorem kim_X10_valueAt : jx_mem (Cond.instanceMethod yX10_valueAt) := jx_mm8 (jx_tp 195 rfl) rfl
set_option maxRecDepth 20000 in
theorem kc_X10_valueAt : jx_mem (Cond.code yX10_valueAt cX10_valueAt 4 (some .int)) := jx_mm8 (jx_tp 196 rfl) rfl
set_option maxRecDepth 20000 in
theorem kX10_386 : jx_mem (Cond.methodLink RX10 386 yX10_rankOf) := jx_mm8 (jx_tp 197 rfl) rfl
set_option maxRecDepth 20000 in
theorem kim_X10_rankOf : jx_mem (Cond.instanceMethod yX10_rankOf) := jx_mm8 (jx_tp 199 rfl) rfl
set_option maxRecDepth 20000 in
theorem kc_X10_rankOf : jx_mem (Cond.code yX10_rankOf cX10_rankOf 10 (some .int)) := jx_mm8 (jx_tp 200 rfl) rfl
set_option maxRecDepth 20000 in
theorem kX10_392 : jx_mem (Cond.methodLink RX10 392 yX10_solves) := jx_mm8 (jx_tp 201 rfl) rfl
set_option maxRecDepth 20000 in
theorem kim_X10_solves : jx_mem (Cond.instanceMethod yX10_solves) := jx_mm8 (jx_tp 203 rfl) rfl
set_option maxRecDepth 20000 in
theorem kc_X10_solves : jx_mem (Cond.code yX10_solves cX10_solves 9 none) := jx_mm8 (jx_tp 204 rfl) rfl
set_option maxRecDepth 20000 in
theorem kL_228 : jx_mem (Cond.methodLink RL 228 yX10_misfits) := jx_mm8 (jx_tp 205 rfl) rfl
set_option maxRecDepth 20000 in
theorem kim_X10_misfits : jx_mem (Cond.instanceMethod yX10_misfits) := jx_mm8 (jx_tp 206 rfl) rfl
set_option maxRecDepth 20000 in
theorem ksel_X10_misfits : jx_mem (Cond.selects RX10 yX10_misfits yX10_misfits) := jx_mm8 (jx_tp 207 rfl) rfl
set_option maxRecDepth 20000 in
theorem kc_X10_misfits : jx_mem (Cond.code yX10_misfits cX10_misfits 5 (some .int)) := jx_mm8 (jx_tp 208 rfl) rfl
set_option maxRecDepth 20000 in
theorem kX10_398 : jx_mem (Cond.methodLink RX10 398 yX10_hasSameMonomials) := jx_mm8 (jx_tp 209 rfl) rfl
set_option maxRecDepth 20000 in
theorem kim_X10_hasSameMonomials : jx_mem (Cond.instanceMethod yX10_hasSameMonomials) := jx_mm8 (jx_tp 211 rfl) rfl
set_option maxRecDepth 20000 in
theorem kc_X10_hasSameMonomials : jx_mem (Cond.code yX10_hasSameMonomials cX10_hasSameMonomials 3 (some .boolean)) := jx_mm8 (jx_tp 212 rfl) rfl
set_option maxRecDepth 20000 in
theorem kL_232 : jx_mem (Cond.methodLink RL 232 yX10_undo) := jx_mm8 (jx_tp 213 rfl) rfl
set_option maxRecDepth 20000 in
theorem kim_X10_undo : jx_mem (Cond.instanceMethod yX10_undo) := jx_mm8 (jx_tp 214 rfl) rfl
set_option maxRecDepth 20000 in
theorem ksel_X10_undo : jx_mem (Cond.selects RX10 yX10_undo yX10_undo) := jx_mm8 (jx_tp 215 rfl) rfl
set_option maxRecDepth 20000 in
theorem kc_X10_undo : jx_mem (Cond.code yX10_undo cX10_undo 1 (some .int)) := jx_mm8 (jx_tp 216 rfl) rfl
set_option maxRecDepth 20000 in
theorem kL_236 : jx_mem (Cond.methodLink RL 236 yX10_save) := jx_mm8 (jx_tp 217 rfl) rfl
set_option maxRecDepth 20000 in
theorem kim_X10_save : jx_mem (Cond.instanceMethod yX10_save) := jx_mm8 (jx_tp 218 rfl) rfl
set_option maxRecDepth 20000 in
theorem ksel_X10_save : jx_mem (Cond.selects RX10 yX10_save yX10_save) := jx_mm8 (jx_tp 219 rfl) rfl
set_option maxRecDepth 20000 in
theorem kc_X10_save : jx_mem (Cond.code yX10_save cX10_save 2 none) := jx_mm8 (jx_tp 220 rfl) rfl
set_option maxRecDepth 20000 in
theorem kL_239 : jx_mem (Cond.methodLink RL 239 yX10_restore) := jx_mm8 (jx_tp 221 rfl) rfl
set_option maxRecDepth 20000 in
theorem kim_X10_restore : jx_mem (Cond.instanceMethod yX10_restore) := jx_mm8 (jx_tp 222 rfl) rfl
set_option maxRecDepth 20000 in
theorem ksel_X10_restore : jx_mem (Cond.selects RX10 yX10_restore yX10_restore) := jx_mm8 (jx_tp 223 rfl) rfl
set_option maxRecDepth 20000 in
theorem kc_X10_restore : jx_mem (Cond.code yX10_restore cX10_restore 2 none) := jx_mm8 (jx_tp 224 rfl) rfl
set_option maxRecDepth 20000 in
theorem kac_long : jx_mem (Cond.arrayClass .long) := jx_mm8 (jx_tp 225 rfl) rfl
set_option maxRecDepth 20000 in
theorem kJ0_9 : jx_mem (Cond.fieldLink RJ0 9 "java/lang/String" "value" "[B") := jx_mm8 (jx_tp 227 rfl) rfl
set_option maxRecDepth 20000 in
theorem kJ0_15 : jx_mem (Cond.fieldLink RJ0 15 "java/lang/String" "coder" "B") := jx_mm8 (jx_tp 228 rfl) rfl
set_option maxRecDepth 20000 in
theorem klX0_0 : jx_mem (u_lay RX0 TX0 0) := jx_mm2 (jx_tp 84 rfl) rfl
set_option maxRecDepth 20000 in
theorem klX0_1 : jx_mem (u_lay RX0 TX0 1) := jx_mm2 (jx_tp 86 rfl) rfl
set_option maxRecDepth 20000 in
theorem klX0 : ∀ w ∈ u_ws RX0 TX0 2, jx_mem w := by
  intro w h
  obtain ⟨j, hj, rfl⟩ := List.mem_map.mp h
  have hj := List.mem_range.mp hj
  match j, hj with
  | 0, _ => exact klX0_0
  | 1, _ => exact klX0_1
  | n + 2, h => exact absurd h (by omega)
set_option maxRecDepth 20000 in
theorem klX1_0 : jx_mem (u_lay RX1 TX1 0) := jx_mm1 (jx_tp 144 rfl) rfl
set_option maxRecDepth 20000 in
theorem klX1_1 : jx_mem (u_lay RX1 TX1 1) := jx_mm1 (jx_tp 146 rfl) rfl
set_option maxRecDepth 20000 in
theorem klX1_2 : jx_mem (u_lay RX1 TX1 2) := jx_mm1 (jx_tp 148 rfl) rfl
set_option maxRecDepth 20000 in
theorem klX1 : ∀ w ∈ u_ws RX1 TX1 3, jx_mem w := by
  intro w h
  obtain ⟨j, hj, rfl⟩ := List.mem_map.mp h
  have hj := List.mem_range.mp hj
  match j, hj with
  | 0, _ => exact klX1_0
  | 1, _ => exact klX1_1
  | 2, _ => exact klX1_2
  | n + 3, h => exact absurd h (by omega)
set_option maxRecDepth 20000 in
theorem klX2_0 : jx_mem (u_lay RX2 TX2 0) := jx_mm1 (jx_tp 188 rfl) rfl
set_option maxRecDepth 20000 in
theorem klX2_1 : jx_mem (u_lay RX2 TX2 1) := jx_mm1 (jx_tp 190 rfl) rfl
set_option maxRecDepth 20000 in
theorem klX2_2 : jx_mem (u_lay RX2 TX2 2) := jx_mm1 (jx_tp 192 rfl) rfl
set_option maxRecDepth 20000 in
theorem klX2_3 : jx_mem (u_lay RX2 TX2 3) := jx_mm1 (jx_tp 194 rfl) rfl
set_option maxRecDepth 20000 in
theorem klX2_4 : jx_mem (u_lay RX2 TX2 4) := jx_mm1 (jx_tp 196 rfl) rfl
set_option maxRecDepth 20000 in
theorem klX2_5 : jx_mem (u_lay RX2 TX2 5) := jx_mm1 (jx_tp 198 rfl) rfl
set_option maxRecDepth 20000 in
theorem klX2_6 : jx_mem (u_lay RX2 TX2 6) := jx_mm1 (jx_tp 200 rfl) rfl
set_option maxRecDepth 20000 in
theorem klX2 : ∀ w ∈ u_ws RX2 TX2 7, jx_mem w := by
  intro w h
  obtain ⟨j, hj, rfl⟩ := List.mem_map.mp h
  have hj := List.mem_range.mp hj
  match j, hj with
  | 0, _ => exact klX2_0
  | 1, _ => exact klX2_1
  | 2, _ => exact klX2_2
  | 3, _ => exact klX2_3
  | 4, _ => exact klX2_4
  | 5, _ => exact klX2_5
  | 6, _ => exact klX2_6
  | n + 7, h => exact absurd h (by omega)
set_option maxRecDepth 20000 in
theorem klX3_0 : jx_mem (u_lay RX3 TX3 0) := jx_mm2 (jx_tp 142 rfl) rfl
set_option maxRecDepth 20000 in
theorem klX3_1 : jx_mem (u_lay RX3 TX3 1) := jx_mm2 (jx_tp 144 rfl) rfl
set_option maxRecDepth 20000 in
theorem klX3_2 : jx_mem (u_lay RX3 TX3 2) := jx_mm2 (jx_tp 146 rfl) rfl
set_option maxRecDepth 20000 in
theorem klX3_3 : jx_mem (u_lay RX3 TX3 3) := jx_mm2 (jx_tp 148 rfl) rfl
set_option maxRecDepth 20000 in
theorem klX3_4 : jx_mem (u_lay RX3 TX3 4) := jx_mm2 (jx_tp 150 rfl) rfl
set_option maxRecDepth 20000 in
theorem klX3_5 : jx_mem (u_lay RX3 TX3 5) := jx_mm2 (jx_tp 152 rfl) rfl
set_option maxRecDepth 20000 in
theorem klX3_6 : jx_mem (u_lay RX3 TX3 6) := jx_mm2 (jx_tp 154 rfl) rfl
set_option maxRecDepth 20000 in
theorem klX3_7 : jx_mem (u_lay RX3 TX3 7) := jx_mm2 (jx_tp 156 rfl) rfl
set_option maxRecDepth 20000 in
theorem klX3_8 : jx_mem (u_lay RX3 TX3 8) := jx_mm2 (jx_tp 158 rfl) rfl
set_option maxRecDepth 20000 in
theorem klX3_9 : jx_mem (u_lay RX3 TX3 9) := jx_mm2 (jx_tp 160 rfl) rfl
set_option maxRecDepth 20000 in
theorem klX3_10 : jx_mem (u_lay RX3 TX3 10) := jx_mm2 (jx_tp 162 rfl) rfl
set_option maxRecDepth 20000 in
theorem klX3 : ∀ w ∈ u_ws RX3 TX3 11, jx_mem w := by
  intro w h
  obtain ⟨j, hj, rfl⟩ := List.mem_map.mp h
  have hj := List.mem_range.mp hj
  match j, hj with
  | 0, _ => exact klX3_0
  | 1, _ => exact klX3_1
  | 2, _ => exact klX3_2
  | 3, _ => exact klX3_3
  | 4, _ => exact klX3_4
  | 5, _ => exact klX3_5
  | 6, _ => exact klX3_6
  | 7, _ => exact klX3_7
  | 8, _ => exact klX3_8
  | 9, _ => exact klX3_9
  | 10, _ => exact klX3_10
  | n + 11, h => exact absurd h (by omega)
set_option maxRecDepth 20000 in
theorem klX4_0 : jx_mem (u_lay RX4 TX4 0) := jx_mm1 (jx_tp 160 rfl) rfl
set_option maxRecDepth 20000 in
theorem klX4_1 : jx_mem (u_lay RX4 TX4 1) := jx_mm1 (jx_tp 162 rfl) rfl
set_option maxRecDepth 20000 in
theorem klX4_2 : jx_mem (u_lay RX4 TX4 2) := jx_mm1 (jx_tp 164 rfl) rfl
set_option maxRecDepth 20000 in
theorem klX4 : ∀ w ∈ u_ws RX4 TX4 3, jx_mem w := by
  intro w h
  obtain ⟨j, hj, rfl⟩ := List.mem_map.mp h
  have hj := List.mem_range.mp hj
  match j, hj with
  | 0, _ => exact klX4_0
  | 1, _ => exact klX4_1
  | 2, _ => exact klX4_2
  | n + 3, h => exact absurd h (by omega)
set_option maxRecDepth 20000 in
theorem klX5_0 : jx_mem (u_lay RX5 TX5 0) := jx_mm1 (jx_tp 106 rfl) rfl
set_option maxRecDepth 20000 in
theorem klX5_1 : jx_mem (u_lay RX5 TX5 1) := jx_mm1 (jx_tp 108 rfl) rfl
set_option maxRecDepth 20000 in
theorem klX5_2 : jx_mem (u_lay RX5 TX5 2) := jx_mm1 (jx_tp 110 rfl) rfl
set_option maxRecDepth 20000 in
theorem klX5_3 : jx_mem (u_lay RX5 TX5 3) := jx_mm1 (jx_tp 112 rfl) rfl
set_option maxRecDepth 20000 in
theorem klX5_4 : jx_mem (u_lay RX5 TX5 4) := jx_mm1 (jx_tp 114 rfl) rfl
set_option maxRecDepth 20000 in
theorem klX5_5 : jx_mem (u_lay RX5 TX5 5) := jx_mm1 (jx_tp 116 rfl) rfl
set_option maxRecDepth 20000 in
theorem klX5_6 : jx_mem (u_lay RX5 TX5 6) := jx_mm1 (jx_tp 118 rfl) rfl
set_option maxRecDepth 20000 in
theorem klX5_7 : jx_mem (u_lay RX5 TX5 7) := jx_mm1 (jx_tp 120 rfl) rfl
set_option maxRecDepth 20000 in
theorem klX5_8 : jx_mem (u_lay RX5 TX5 8) := jx_mm1 (jx_tp 122 rfl) rfl
set_option maxRecDepth 20000 in
theorem klX5_9 : jx_mem (u_lay RX5 TX5 9) := jx_mm1 (jx_tp 124 rfl) rfl
set_option maxRecDepth 20000 in
theorem klX5_10 : jx_mem (u_lay RX5 TX5 10) := jx_mm1 (jx_tp 126 rfl) rfl
set_option maxRecDepth 20000 in
theorem klX5_11 : jx_mem (u_lay RX5 TX5 11) := jx_mm1 (jx_tp 128 rfl) rfl
set_option maxRecDepth 20000 in
theorem klX5 : ∀ w ∈ u_ws RX5 TX5 12, jx_mem w := by
  intro w h
  obtain ⟨j, hj, rfl⟩ := List.mem_map.mp h
  have hj := List.mem_range.mp hj
  match j, hj with
  | 0, _ => exact klX5_0
  | 1, _ => exact klX5_1
  | 2, _ => exact klX5_2
  | 3, _ => exact klX5_3
  | 4, _ => exact klX5_4
  | 5, _ => exact klX5_5
  | 6, _ => exact klX5_6
  | 7, _ => exact klX5_7
  | 8, _ => exact klX5_8
  | 9, _ => exact klX5_9
  | 10, _ => exact klX5_10
  | 11, _ => exact klX5_11
  | n + 12, h => exact absurd h (by omega)
set_option maxRecDepth 20000 in
theorem klX6_0 : jx_mem (u_lay RX6 TX6 0) := jx_mm1 (jx_tp 221 rfl) rfl
set_option maxRecDepth 20000 in
theorem klX6_1 : jx_mem (u_lay RX6 TX6 1) := jx_mm1 (jx_tp 223 rfl) rfl
set_option maxRecDepth 20000 in
theorem klX6_2 : jx_mem (u_lay RX6 TX6 2) := jx_mm1 (jx_tp 225 rfl) rfl
set_option maxRecDepth 20000 in
theorem klX6_3 : jx_mem (u_lay RX6 TX6 3) := jx_mm1 (jx_tp 227 rfl) rfl
set_option maxRecDepth 20000 in
theorem klX6_4 : jx_mem (u_lay RX6 TX6 4) := jx_mm1 (jx_tp 229 rfl) rfl
set_option maxRecDepth 20000 in
theorem klX6_5 : jx_mem (u_lay RX6 TX6 5) := jx_mm1 (jx_tp 231 rfl) rfl
set_option maxRecDepth 20000 in
theorem klX6_6 : jx_mem (u_lay RX6 TX6 6) := jx_mm1 (jx_tp 233 rfl) rfl
set_option maxRecDepth 20000 in
theorem klX6_7 : jx_mem (u_lay RX6 TX6 7) := jx_mm1 (jx_tp 235 rfl) rfl
set_option maxRecDepth 20000 in
theorem klX6_8 : jx_mem (u_lay RX6 TX6 8) := jx_mm1 (jx_tp 237 rfl) rfl
set_option maxRecDepth 20000 in
theorem klX6_9 : jx_mem (u_lay RX6 TX6 9) := jx_mm1 (jx_tp 239 rfl) rfl
set_option maxRecDepth 20000 in
theorem klX6_10 : jx_mem (u_lay RX6 TX6 10) := jx_mm2 (jx_tp 1 rfl) rfl
set_option maxRecDepth 20000 in
theorem klX6_11 : jx_mem (u_lay RX6 TX6 11) := jx_mm2 (jx_tp 3 rfl) rfl
set_option maxRecDepth 20000 in
theorem klX6_12 : jx_mem (u_lay RX6 TX6 12) := jx_mm2 (jx_tp 5 rfl) rfl
set_option maxRecDepth 20000 in
theorem klX6_13 : jx_mem (u_lay RX6 TX6 13) := jx_mm2 (jx_tp 7 rfl) rfl
set_option maxRecDepth 20000 in
theorem klX6_14 : jx_mem (u_lay RX6 TX6 14) := jx_mm2 (jx_tp 9 rfl) rfl
set_option maxRecDepth 20000 in
theorem klX6_15 : jx_mem (u_lay RX6 TX6 15) := jx_mm2 (jx_tp 11 rfl) rfl
set_option maxRecDepth 20000 in
theorem klX6_16 : jx_mem (u_lay RX6 TX6 16) := jx_mm2 (jx_tp 13 rfl) rfl
set_option maxRecDepth 20000 in
theorem klX6 : ∀ w ∈ u_ws RX6 TX6 17, jx_mem w := by
  intro w h
  obtain ⟨j, hj, rfl⟩ := List.mem_map.mp h
  have hj := List.mem_range.mp hj
  match j, hj with
  | 0, _ => exact klX6_0
  | 1, _ => exact klX6_1
  | 2, _ => exact klX6_2
  | 3, _ => exact klX6_3
  | 4, _ => exact klX6_4
  | 5, _ => exact klX6_5
  | 6, _ => exact klX6_6
  | 7, _ => exact klX6_7
  | 8, _ => exact klX6_8
  | 9, _ => exact klX6_9
  | 10, _ => exact klX6_10
  | 11, _ => exact klX6_11
  | 12, _ => exact klX6_12
  | 13, _ => exact klX6_13
  | 14, _ => exact klX6_14
  | 15, _ => exact klX6_15
  | 16, _ => exact klX6_16
  | n + 17, h => exact absurd h (by omega)
set_option maxRecDepth 20000 in
theorem klX7_0 : jx_mem (u_lay RX7 TX7 0) := jx_mm2 (jx_tp 105 rfl) rfl
set_option maxRecDepth 20000 in
theorem klX7_1 : jx_mem (u_lay RX7 TX7 1) := jx_mm2 (jx_tp 107 rfl) rfl
set_option maxRecDepth 20000 in
theorem klX7_2 : jx_mem (u_lay RX7 TX7 2) := jx_mm2 (jx_tp 109 rfl) rfl
set_option maxRecDepth 20000 in
theorem klX7_3 : jx_mem (u_lay RX7 TX7 3) := jx_mm2 (jx_tp 111 rfl) rfl
set_option maxRecDepth 20000 in
theorem klX7_4 : jx_mem (u_lay RX7 TX7 4) := jx_mm2 (jx_tp 113 rfl) rfl
set_option maxRecDepth 20000 in
theorem klX7_5 : jx_mem (u_lay RX7 TX7 5) := jx_mm2 (jx_tp 115 rfl) rfl
set_option maxRecDepth 20000 in
theorem klX7 : ∀ w ∈ u_ws RX7 TX7 6, jx_mem w := by
  intro w h
  obtain ⟨j, hj, rfl⟩ := List.mem_map.mp h
  have hj := List.mem_range.mp hj
  match j, hj with
  | 0, _ => exact klX7_0
  | 1, _ => exact klX7_1
  | 2, _ => exact klX7_2
  | 3, _ => exact klX7_3
  | 4, _ => exact klX7_4
  | 5, _ => exact klX7_5
  | n + 6, h => exact absurd h (by omega)
set_option maxRecDepth 20000 in
theorem klX8_0 : jx_mem (u_lay RX8 TX8 0) := jx_mm2 (jx_tp 42 rfl) rfl
set_option maxRecDepth 20000 in
theorem klX8_1 : jx_mem (u_lay RX8 TX8 1) := jx_mm2 (jx_tp 44 rfl) rfl
set_option maxRecDepth 20000 in
theorem klX8_2 : jx_mem (u_lay RX8 TX8 2) := jx_mm2 (jx_tp 46 rfl) rfl
set_option maxRecDepth 20000 in
theorem klX8_3 : jx_mem (u_lay RX8 TX8 3) := jx_mm2 (jx_tp 48 rfl) rfl
set_option maxRecDepth 20000 in
theorem klX8_4 : jx_mem (u_lay RX8 TX8 4) := jx_mm2 (jx_tp 50 rfl) rfl
set_option maxRecDepth 20000 in
theorem klX8_5 : jx_mem (u_lay RX8 TX8 5) := jx_mm2 (jx_tp 52 rfl) rfl
set_option maxRecDepth 20000 in
theorem klX8_6 : jx_mem (u_lay RX8 TX8 6) := jx_mm2 (jx_tp 54 rfl) rfl
set_option maxRecDepth 20000 in
theorem klX8_7 : jx_mem (u_lay RX8 TX8 7) := jx_mm2 (jx_tp 56 rfl) rfl
set_option maxRecDepth 20000 in
theorem klX8_8 : jx_mem (u_lay RX8 TX8 8) := jx_mm2 (jx_tp 58 rfl) rfl
set_option maxRecDepth 20000 in
theorem klX8_9 : jx_mem (u_lay RX8 TX8 9) := jx_mm2 (jx_tp 60 rfl) rfl
set_option maxRecDepth 20000 in
theorem klX8_10 : jx_mem (u_lay RX8 TX8 10) := jx_mm2 (jx_tp 62 rfl) rfl
set_option maxRecDepth 20000 in
theorem klX8_11 : jx_mem (u_lay RX8 TX8 11) := jx_mm2 (jx_tp 64 rfl) rfl
set_option maxRecDepth 20000 in
theorem klX8_12 : jx_mem (u_lay RX8 TX8 12) := jx_mm2 (jx_tp 66 rfl) rfl
set_option maxRecDepth 20000 in
theorem klX8_13 : jx_mem (u_lay RX8 TX8 13) := jx_mm2 (jx_tp 68 rfl) rfl
set_option maxRecDepth 20000 in
theorem klX8_14 : jx_mem (u_lay RX8 TX8 14) := jx_mm2 (jx_tp 70 rfl) rfl
set_option maxRecDepth 20000 in
theorem klX8 : ∀ w ∈ u_ws RX8 TX8 15, jx_mem w := by
  intro w h
  obtain ⟨j, hj, rfl⟩ := List.mem_map.mp h
  have hj := List.mem_range.mp hj
  match j, hj with
  | 0, _ => exact klX8_0
  | 1, _ => exact klX8_1
  | 2, _ => exact klX8_2
  | 3, _ => exact klX8_3
  | 4, _ => exact klX8_4
  | 5, _ => exact klX8_5
  | 6, _ => exact klX8_6
  | 7, _ => exact klX8_7
  | 8, _ => exact klX8_8
  | 9, _ => exact klX8_9
  | 10, _ => exact klX8_10
  | 11, _ => exact klX8_11
  | 12, _ => exact klX8_12
  | 13, _ => exact klX8_13
  | 14, _ => exact klX8_14
  | n + 15, h => exact absurd h (by omega)
set_option maxRecDepth 20000 in
theorem klX9_0 : jx_mem (u_lay RX9 TX9 0) := jx_mm2 (jx_tp 179 rfl) rfl
set_option maxRecDepth 20000 in
theorem klX9_1 : jx_mem (u_lay RX9 TX9 1) := jx_mm2 (jx_tp 181 rfl) rfl
set_option maxRecDepth 20000 in
theorem klX9_2 : jx_mem (u_lay RX9 TX9 2) := jx_mm2 (jx_tp 183 rfl) rfl
set_option maxRecDepth 20000 in
theorem klX9_3 : jx_mem (u_lay RX9 TX9 3) := jx_mm2 (jx_tp 185 rfl) rfl
set_option maxRecDepth 20000 in
theorem klX9_4 : jx_mem (u_lay RX9 TX9 4) := jx_mm2 (jx_tp 187 rfl) rfl
set_option maxRecDepth 20000 in
theorem klX9_5 : jx_mem (u_lay RX9 TX9 5) := jx_mm2 (jx_tp 189 rfl) rfl
set_option maxRecDepth 20000 in
theorem klX9_6 : jx_mem (u_lay RX9 TX9 6) := jx_mm2 (jx_tp 191 rfl) rfl
set_option maxRecDepth 20000 in
theorem klX9_7 : jx_mem (u_lay RX9 TX9 7) := jx_mm2 (jx_tp 193 rfl) rfl
set_option maxRecDepth 20000 in
theorem klX9_8 : jx_mem (u_lay RX9 TX9 8) := jx_mm2 (jx_tp 195 rfl) rfl
set_option maxRecDepth 20000 in
theorem klX9_9 : jx_mem (u_lay RX9 TX9 9) := jx_mm2 (jx_tp 197 rfl) rfl
set_option maxRecDepth 20000 in
theorem klX9_10 : jx_mem (u_lay RX9 TX9 10) := jx_mm2 (jx_tp 199 rfl) rfl
set_option maxRecDepth 20000 in
theorem klX9_11 : jx_mem (u_lay RX9 TX9 11) := jx_mm2 (jx_tp 201 rfl) rfl
set_option maxRecDepth 20000 in
theorem klX9_12 : jx_mem (u_lay RX9 TX9 12) := jx_mm2 (jx_tp 203 rfl) rfl
set_option maxRecDepth 20000 in
theorem klX9_13 : jx_mem (u_lay RX9 TX9 13) := jx_mm2 (jx_tp 205 rfl) rfl
set_option maxRecDepth 20000 in
theorem klX9 : ∀ w ∈ u_ws RX9 TX9 14, jx_mem w := by
  intro w h
  obtain ⟨j, hj, rfl⟩ := List.mem_map.mp h
  have hj := List.mem_range.mp hj
  match j, hj with
  | 0, _ => exact klX9_0
  | 1, _ => exact klX9_1
  | 2, _ => exact klX9_2
  | 3, _ => exact klX9_3
  | 4, _ => exact klX9_4
  | 5, _ => exact klX9_5
  | 6, _ => exact klX9_6
  | 7, _ => exact klX9_7
  | 8, _ => exact klX9_8
  | 9, _ => exact klX9_9
  | 10, _ => exact klX9_10
  | 11, _ => exact klX9_11
  | 12, _ => exact klX9_12
  | 13, _ => exact klX9_13
  | n + 14, h => exact absurd h (by omega)
set_option maxRecDepth 20000 in
theorem klX10_0 : jx_mem (u_lay RX10 TX10 0) := jx_mm6 (jx_tp 178 rfl) rfl
set_option maxRecDepth 20000 in
theorem klX10_1 : jx_mem (u_lay RX10 TX10 1) := jx_mm6 (jx_tp 180 rfl) rfl
set_option maxRecDepth 20000 in
theorem klX10_2 : jx_mem (u_lay RX10 TX10 2) := jx_mm6 (jx_tp 182 rfl) rfl
set_option maxRecDepth 20000 in
theorem klX10_3 : jx_mem (u_lay RX10 TX10 3) := jx_mm6 (jx_tp 184 rfl) rfl
set_option maxRecDepth 20000 in
theorem klX10_4 : jx_mem (u_lay RX10 TX10 4) := jx_mm6 (jx_tp 186 rfl) rfl
set_option maxRecDepth 20000 in
theorem klX10_5 : jx_mem (u_lay RX10 TX10 5) := jx_mm6 (jx_tp 188 rfl) rfl
set_option maxRecDepth 20000 in
theorem klX10_6 : jx_mem (u_lay RX10 TX10 6) := jx_mm6 (jx_tp 190 rfl) rfl
set_option maxRecDepth 20000 in
theorem klX10_7 : jx_mem (u_lay RX10 TX10 7) := jx_mm6 (jx_tp 192 rfl) rfl
set_option maxRecDepth 20000 in
theorem klX10_8 : jx_mem (u_lay RX10 TX10 8) := jx_mm6 (jx_tp 194 rfl) rfl
set_option maxRecDepth 20000 in
theorem klX10_9 : jx_mem (u_lay RX10 TX10 9) := jx_mm6 (jx_tp 196 rfl) rfl
set_option maxRecDepth 20000 in
theorem klX10_10 : jx_mem (u_lay RX10 TX10 10) := jx_mm6 (jx_tp 198 rfl) rfl
set_option maxRecDepth 20000 in
theorem klX10_11 : jx_mem (u_lay RX10 TX10 11) := jx_mm6 (jx_tp 200 rfl) rfl
set_option maxRecDepth 20000 in
theorem klX10_12 : jx_mem (u_lay RX10 TX10 12) := jx_mm6 (jx_tp 202 rfl) rfl
set_option maxRecDepth 20000 in
theorem klX10_13 : jx_mem (u_lay RX10 TX10 13) := jx_mm6 (jx_tp 204 rfl) rfl
set_option maxRecDepth 20000 in
theorem klX10_14 : jx_mem (u_lay RX10 TX10 14) := jx_mm6 (jx_tp 206 rfl) rfl
set_option maxRecDepth 20000 in
theorem klX10_15 : jx_mem (u_lay RX10 TX10 15) := jx_mm6 (jx_tp 208 rfl) rfl
set_option maxRecDepth 20000 in
theorem klX10_16 : jx_mem (u_lay RX10 TX10 16) := jx_mm6 (jx_tp 210 rfl) rfl
set_option maxRecDepth 20000 in
theorem klX10_17 : jx_mem (u_lay RX10 TX10 17) := jx_mm6 (jx_tp 212 rfl) rfl
set_option maxRecDepth 20000 in
theorem klX10_18 : jx_mem (u_lay RX10 TX10 18) := jx_mm6 (jx_tp 214 rfl) rfl
set_option maxRecDepth 20000 in
theorem klX10_19 : jx_mem (u_lay RX10 TX10 19) := jx_mm6 (jx_tp 216 rfl) rfl
set_option maxRecDepth 20000 in
theorem klX10_20 : jx_mem (u_lay RX10 TX10 20) := jx_mm6 (jx_tp 218 rfl) rfl
set_option maxRecDepth 20000 in
theorem klX10_21 : jx_mem (u_lay RX10 TX10 21) := jx_mm6 (jx_tp 220 rfl) rfl
set_option maxRecDepth 20000 in
theorem klX10_22 : jx_mem (u_lay RX10 TX10 22) := jx_mm6 (jx_tp 222 rfl) rfl
set_option maxRecDepth 20000 in
theorem klX10_23 : jx_mem (u_lay RX10 TX10 23) := jx_mm6 (jx_tp 224 rfl) rfl
set_option maxRecDepth 20000 in
theorem klX10_24 : jx_mem (u_lay RX10 TX10 24) := jx_mm6 (jx_tp 226 rfl) rfl
set_option maxRecDepth 20000 in
theorem klX10_25 : jx_mem (u_lay RX10 TX10 25) := jx_mm6 (jx_tp 228 rfl) rfl
set_option maxRecDepth 20000 in
theorem klX10_26 : jx_mem (u_lay RX10 TX10 26) := jx_mm6 (jx_tp 230 rfl) rfl
set_option maxRecDepth 20000 in
theorem klX10_27 : jx_mem (u_lay RX10 TX10 27) := jx_mm6 (jx_tp 232 rfl) rfl
set_option maxRecDepth 20000 in
theorem klX10_28 : jx_mem (u_lay RX10 TX10 28) := jx_mm6 (jx_tp 234 rfl) rfl
set_option maxRecDepth 20000 in
theorem klX10_29 : jx_mem (u_lay RX10 TX10 29) := jx_mm6 (jx_tp 236 rfl) rfl
set_option maxRecDepth 20000 in
theorem klX10_30 : jx_mem (u_lay RX10 TX10 30) := jx_mm6 (jx_tp 238 rfl) rfl
set_option maxRecDepth 20000 in
theorem klX10_31 : jx_mem (u_lay RX10 TX10 31) := jx_mm7 (jx_tp 0 rfl) rfl
set_option maxRecDepth 20000 in
theorem klX10_32 : jx_mem (u_lay RX10 TX10 32) := jx_mm7 (jx_tp 2 rfl) rfl
set_option maxRecDepth 20000 in
theorem klX10_33 : jx_mem (u_lay RX10 TX10 33) := jx_mm7 (jx_tp 4 rfl) rfl
set_option maxRecDepth 20000 in
theorem klX10_34 : jx_mem (u_lay RX10 TX10 34) := jx_mm7 (jx_tp 6 rfl) rfl
set_option maxRecDepth 20000 in
theorem klX10_35 : jx_mem (u_lay RX10 TX10 35) := jx_mm7 (jx_tp 8 rfl) rfl
set_option maxRecDepth 20000 in
theorem klX10_36 : jx_mem (u_lay RX10 TX10 36) := jx_mm7 (jx_tp 10 rfl) rfl
set_option maxRecDepth 20000 in
theorem klX10_37 : jx_mem (u_lay RX10 TX10 37) := jx_mm7 (jx_tp 12 rfl) rfl
set_option maxRecDepth 20000 in
theorem klX10 : ∀ w ∈ u_ws RX10 TX10 38, jx_mem w := by
  intro w h
  obtain ⟨j, hj, rfl⟩ := List.mem_map.mp h
  have hj := List.mem_range.mp hj
  match j, hj with
  | 0, _ => exact klX10_0
  | 1, _ => exact klX10_1
  | 2, _ => exact klX10_2
  | 3, _ => exact klX10_3
  | 4, _ => exact klX10_4
  | 5, _ => exact klX10_5
  | 6, _ => exact klX10_6
  | 7, _ => exact klX10_7
  | 8, _ => exact klX10_8
  | 9, _ => exact klX10_9
  | 10, _ => exact klX10_10
  | 11, _ => exact klX10_11
  | 12, _ => exact klX10_12
  | 13, _ => exact klX10_13
  | 14, _ => exact klX10_14
  | 15, _ => exact klX10_15
  | 16, _ => exact klX10_16
  | 17, _ => exact klX10_17
  | 18, _ => exact klX10_18
  | 19, _ => exact klX10_19
  | 20, _ => exact klX10_20
  | 21, _ => exact klX10_21
  | 22, _ => exact klX10_22
  | 23, _ => exact klX10_23
  | 24, _ => exact klX10_24
  | 25, _ => exact klX10_25
  | 26, _ => exact klX10_26
  | 27, _ => exact klX10_27
  | 28, _ => exact klX10_28
  | 29, _ => exact klX10_29
  | 30, _ => exact klX10_30
  | 31, _ => exact klX10_31
  | 32, _ => exact klX10_32
  | 33, _ => exact klX10_33
  | 34, _ => exact klX10_34
  | 35, _ => exact klX10_35
  | 36, _ => exact klX10_36
  | 37, _ => exact klX10_37
  | n + 38, h => exact absurd h (by omega)
