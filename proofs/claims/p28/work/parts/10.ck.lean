/-! the tables are the class's -/
set_option maxRecDepth 100000 in
theorem ckX0_init : mmChk mmPT mX0_init = true := by decide +kernel
set_option maxRecDepth 100000 in
theorem ckX0_goOver : mmChk mmPT mX0_goOver = true := by decide +kernel
set_option maxRecDepth 100000 in
theorem ckX0_begin : mmChk mmPT mX0_begin = true := by decide +kernel
set_option maxRecDepth 100000 in
theorem ckX0_visit : mmChk mmPT mX0_visit = true := by decide +kernel
set_option maxRecDepth 100000 in
theorem ckX0_meet : mmChk mmPT mX0_meet = true := by decide +kernel
set_option maxRecDepth 100000 in
theorem ckX0_reckon : mmChk mmPT mX0_reckon = true := by decide +kernel
set_option maxRecDepth 100000 in
theorem ckX0_knownAt : mmChk mmPT mX0_knownAt = true := by decide +kernel
set_option maxRecDepth 100000 in
theorem ckX0_numberAt : mmChk mmPT mX0_numberAt = true := by decide +kernel
set_option maxRecDepth 100000 in
theorem ckX0_rise : mmChk mmPT mX0_rise = true := by decide +kernel
set_option maxRecDepth 100000 in
theorem ckX0_goOn : mmChk mmPT mX0_goOn = true := by decide +kernel
set_option maxRecDepth 100000 in
theorem ckX0_goAlong : mmChk mmPT mX0_goAlong = true := by decide +kernel
set_option maxRecDepth 100000 in
theorem ckX0_cutWays : mmChk mmPT mX0_cutWays = true := by decide +kernel
set_option maxRecDepth 100000 in
theorem ckX0_loseBlocks : mmChk mmPT mX0_loseBlocks = true := by decide +kernel
set_option maxRecDepth 100000 in
theorem ckX0_replaceNumbers : mmChk mmPT mX0_replaceNumbers = true := by decide +kernel
set_option maxRecDepth 100000 in
theorem ckX1_init : mmChk mmPT mX1_init = true := by decide +kernel
set_option maxRecDepth 100000 in
theorem ckX1_goOver : mmChk mmPT mX1_goOver = true := by decide +kernel
set_option maxRecDepth 100000 in
theorem ckX1_isNeededBySelf : mmChk mmPT mX1_isNeededBySelf = true := by decide +kernel
set_option maxRecDepth 100000 in
theorem ckX1_needArguments : mmChk mmPT mX1_needArguments = true := by decide +kernel
set_option maxRecDepth 100000 in
theorem ckX1_loseOthers : mmChk mmPT mX1_loseOthers = true := by decide +kernel
set_option maxRecDepth 100000 in
theorem ckX2_init : mmChk mmPT mX2_init = true := by decide +kernel
set_option maxRecDepth 100000 in
theorem ckX2_forget : mmChk mmPT mX2_forget = true := by decide +kernel
set_option maxRecDepth 100000 in
theorem ckX2_lead : mmChk mmPT mX2_lead = true := by decide +kernel
set_option maxRecDepth 100000 in
theorem ckX2_reckon : mmChk mmPT mX2_reckon = true := by decide +kernel
set_option maxRecDepth 100000 in
theorem ckX2_reachedWithout : mmChk mmPT mX2_reachedWithout = true := by decide +kernel
set_option maxRecDepth 100000 in
theorem ckX2_addDominator : mmChk mmPT mX2_addDominator = true := by decide +kernel
set_option maxRecDepth 100000 in
theorem ckX2_firstReady : mmChk mmPT mX2_firstReady = true := by decide +kernel
set_option maxRecDepth 100000 in
theorem ckX2_frontier : mmChk mmPT mX2_frontier = true := by decide +kernel
set_option maxRecDepth 100000 in
theorem ckX2_nearestDominator : mmChk mmPT mX2_nearestDominator = true := by decide +kernel
set_option maxRecDepth 100000 in
theorem ckX3_init : mmChk mmPT mX3_init = true := by decide +kernel
set_option maxRecDepth 100000 in
theorem ckX3_begin : mmChk mmPT mX3_begin = true := by decide +kernel
set_option maxRecDepth 100000 in
theorem ckX3_take : mmChk mmPT mX3_take = true := by decide +kernel
set_option maxRecDepth 100000 in
theorem ckX3_addValue : mmChk mmPT mX3_addValue = true := by decide +kernel
set_option maxRecDepth 100000 in
theorem ckX3_putInto : mmChk mmPT mX3_putInto = true := by decide +kernel
set_option maxRecDepth 100000 in
theorem ckX3_addArgument : mmChk mmPT mX3_addArgument = true := by decide +kernel
set_option maxRecDepth 100000 in
theorem ckX3_addEdge : mmChk mmPT mX3_addEdge = true := by decide +kernel
set_option maxRecDepth 100000 in
theorem ckX3_valueIn : mmChk mmPT mX3_valueIn = true := by decide +kernel
set_option maxRecDepth 100000 in
theorem ckX3_wayTo : mmChk mmPT mX3_wayTo = true := by decide +kernel
set_option maxRecDepth 100000 in
theorem ckX3_valueOf : mmChk mmPT mX3_valueOf = true := by decide +kernel
set_option maxRecDepth 100000 in
theorem ckX3_numberOf : mmChk mmPT mX3_numberOf = true := by decide +kernel
set_option maxRecDepth 100000 in
theorem ckX3_allIn : mmChk mmPT mX3_allIn = true := by decide +kernel
set_option maxRecDepth 100000 in
theorem ckX3_allPhis : mmChk mmPT mX3_allPhis = true := by decide +kernel
set_option maxRecDepth 100000 in
theorem ckX3_usesOf : mmChk mmPT mX3_usesOf = true := by decide +kernel
set_option maxRecDepth 100000 in
theorem ckX3_edgeOf : mmChk mmPT mX3_edgeOf = true := by decide +kernel
set_option maxRecDepth 100000 in
theorem ckX3_replace : mmChk mmPT mX3_replace = true := by decide +kernel
set_option maxRecDepth 100000 in
theorem ckX3_redirect : mmChk mmPT mX3_redirect = true := by decide +kernel
set_option maxRecDepth 100000 in
theorem ckX3_lose : mmChk mmPT mX3_lose = true := by decide +kernel
set_option maxRecDepth 100000 in
theorem ckX3_loseBlock : mmChk mmPT mX3_loseBlock = true := by decide +kernel
set_option maxRecDepth 100000 in
theorem ckX3_sweep : mmChk mmPT mX3_sweep = true := by decide +kernel
set_option maxRecDepth 100000 in
theorem ckX3_dropEdge : mmChk mmPT mX3_dropEdge = true := by decide +kernel
set_option maxRecDepth 100000 in
theorem ckX3_dropArgument : mmChk mmPT mX3_dropArgument = true := by decide +kernel
set_option maxRecDepth 100000 in
theorem ckX3_changeWay : mmChk mmPT mX3_changeWay = true := by decide +kernel
set_option maxRecDepth 100000 in
theorem ckX3_takeEnd : mmChk mmPT mX3_takeEnd = true := by decide +kernel
set_option maxRecDepth 100000 in
theorem ckX3_hasSameArguments : mmChk mmPT mX3_hasSameArguments = true := by decide +kernel
set_option maxRecDepth 100000 in
theorem ckX3_hasCrossedArguments : mmChk mmPT mX3_hasCrossedArguments = true := by decide +kernel
set_option maxRecDepth 100000 in
theorem ckX3_soleArgument : mmChk mmPT mX3_soleArgument = true := by decide +kernel
set_option maxRecDepth 100000 in
theorem ckX4_init : mmChk mmPT mX4_init = true := by decide +kernel
set_option maxRecDepth 100000 in
theorem ckX4_goOver : mmChk mmPT mX4_goOver = true := by decide +kernel
set_option maxRecDepth 100000 in
theorem ckX4_firstToJoin : mmChk mmPT mX4_firstToJoin = true := by decide +kernel
set_option maxRecDepth 100000 in
theorem ckX4_moveValues : mmChk mmPT mX4_moveValues = true := by decide +kernel
set_option maxRecDepth 100000 in
theorem ckX4_moveEnd : mmChk mmPT mX4_moveEnd = true := by decide +kernel
set_option maxRecDepth 100000 in
theorem ckX5_init : mmChk mmPT mX5_init = true := by decide +kernel
set_option maxRecDepth 100000 in
theorem ckX5_make : mmChk mmPT mX5_make = true := by decide +kernel
set_option maxRecDepth 100000 in
theorem ckX5_placePhis : mmChk mmPT mX5_placePhis = true := by decide +kernel
set_option maxRecDepth 100000 in
theorem ckX5_whereJoined : mmChk mmPT mX5_whereJoined = true := by decide +kernel
set_option maxRecDepth 100000 in
theorem ckX5_addValues : mmChk mmPT mX5_addValues = true := by decide +kernel
set_option maxRecDepth 100000 in
theorem ckX5_addEdges : mmChk mmPT mX5_addEdges = true := by decide +kernel
set_option maxRecDepth 100000 in
theorem ckX5_holdAtBeginning : mmChk mmPT mX5_holdAtBeginning = true := by decide +kernel
set_option maxRecDepth 100000 in
theorem ckX5_hold : mmChk mmPT mX5_hold = true := by decide +kernel
set_option maxRecDepth 100000 in
theorem ckX5_followLines : mmChk mmPT mX5_followLines = true := by decide +kernel
set_option maxRecDepth 100000 in
theorem ckX5_give : mmChk mmPT mX5_give = true := by decide +kernel
set_option maxRecDepth 100000 in
theorem ckX5_valueFor : mmChk mmPT mX5_valueFor = true := by decide +kernel
set_option maxRecDepth 100000 in
theorem ckX5_numberFor : mmChk mmPT mX5_numberFor = true := by decide +kernel
set_option maxRecDepth 100000 in
theorem ckX5_givePhisTheirs : mmChk mmPT mX5_givePhisTheirs = true := by decide +kernel
set_option maxRecDepth 100000 in
theorem ckX5_givePhi : mmChk mmPT mX5_givePhi = true := by decide +kernel
set_option maxRecDepth 100000 in
theorem ckX6_init : mmChk mmPT mX6_init = true := by decide +kernel
set_option maxRecDepth 100000 in
theorem ckX6_goOver : mmChk mmPT mX6_goOver = true := by decide +kernel
set_option maxRecDepth 100000 in
theorem ckX6_readEdges : mmChk mmPT mX6_readEdges = true := by decide +kernel
set_option maxRecDepth 100000 in
theorem ckX6_visit : mmChk mmPT mX6_visit = true := by decide +kernel
set_option maxRecDepth 100000 in
theorem ckX6_twinOfPhi : mmChk mmPT mX6_twinOfPhi = true := by decide +kernel
set_option maxRecDepth 100000 in
theorem ckX6_twinOfReckoning : mmChk mmPT mX6_twinOfReckoning = true := by decide +kernel
set_option maxRecDepth 100000 in
theorem ckX6_isStill : mmChk mmPT mX6_isStill = true := by decide +kernel
set_option maxRecDepth 100000 in
theorem ckX7_init : mmChk mmPT mX7_init = true := by decide +kernel
set_option maxRecDepth 100000 in
theorem ckX7_at : mmChk mmPT mX7_at = true := by decide +kernel
set_option maxRecDepth 100000 in
theorem ckX7_put : mmChk mmPT mX7_put = true := by decide +kernel
set_option maxRecDepth 100000 in
theorem ckX7_fill : mmChk mmPT mX7_fill = true := by decide +kernel
set_option maxRecDepth 100000 in
theorem ckX7_take : mmChk mmPT mX7_take = true := by decide +kernel
set_option maxRecDepth 100000 in
theorem ckX8_init : mmChk mmPT mX8_init = true := by decide +kernel
set_option maxRecDepth 100000 in
theorem ckX8_walkBlocks : mmChk mmPT mX8_walkBlocks = true := by decide +kernel
set_option maxRecDepth 100000 in
theorem ckX8_doLines : mmChk mmPT mX8_doLines = true := by decide +kernel
set_option maxRecDepth 100000 in
theorem ckX8_read : mmChk mmPT mX8_read = true := by decide +kernel
set_option maxRecDepth 100000 in
theorem ckX8_walkForm : mmChk mmPT mX8_walkForm = true := by decide +kernel
set_option maxRecDepth 100000 in
theorem ckX8_doPhis : mmChk mmPT mX8_doPhis = true := by decide +kernel
set_option maxRecDepth 100000 in
theorem ckX8_doValues : mmChk mmPT mX8_doValues = true := by decide +kernel
set_option maxRecDepth 100000 in
theorem ckX8_reckon : mmChk mmPT mX8_reckon = true := by decide +kernel
set_option maxRecDepth 100000 in
theorem ckX9_init : mmChk mmPT mX9_init = true := by decide +kernel
set_option maxRecDepth 100000 in
theorem ckX9_begin : mmChk mmPT mX9_begin = true := by decide +kernel
set_option maxRecDepth 100000 in
theorem ckX9_finish : mmChk mmPT mX9_finish = true := by decide +kernel
set_option maxRecDepth 100000 in
theorem ckX9_act : mmChk mmPT mX9_act = true := by decide +kernel
set_option maxRecDepth 100000 in
theorem ckX9_leaveBy : mmChk mmPT mX9_leaveBy = true := by decide +kernel
set_option maxRecDepth 100000 in
theorem ckX9_isLike : mmChk mmPT mX9_isLike = true := by decide +kernel
set_option maxRecDepth 100000 in
theorem ckX10_init : mmChk mmPT mX10_init = true := by decide +kernel
set_option maxRecDepth 100000 in
theorem ckX10_addBlock : mmChk mmPT mX10_addBlock = true := by decide +kernel
set_option maxRecDepth 100000 in
theorem ckX10_addLine : mmChk mmPT mX10_addLine = true := by decide +kernel
set_option maxRecDepth 100000 in
theorem ckX10_cutLine : mmChk mmPT mX10_cutLine = true := by decide +kernel
set_option maxRecDepth 100000 in
theorem ckX10_putEnd : mmChk mmPT mX10_putEnd = true := by decide +kernel
set_option maxRecDepth 100000 in
theorem ckX10_allLines : mmChk mmPT mX10_allLines = true := by decide +kernel
set_option maxRecDepth 100000 in
theorem ckX10_reckon : mmChk mmPT mX10_reckon = true := by decide +kernel
set_option maxRecDepth 100000 in
theorem ckX10_readLines : mmChk mmPT mX10_readLines = true := by decide +kernel
set_option maxRecDepth 100000 in
theorem ckX10_reckonWanted : mmChk mmPT mX10_reckonWanted = true := by decide +kernel
set_option maxRecDepth 100000 in
theorem ckX11_init : mmChk mmPT mX11_init = true := by decide +kernel
set_option maxRecDepth 100000 in
theorem ckX11_block : mmChk mmPT mX11_block = true := by decide +kernel
set_option maxRecDepth 100000 in
theorem ckX11_line : mmChk mmPT mX11_line = true := by decide +kernel
set_option maxRecDepth 100000 in
theorem ckX11_cut : mmChk mmPT mX11_cut = true := by decide +kernel
set_option maxRecDepth 100000 in
theorem ckX11_end : mmChk mmPT mX11_end = true := by decide +kernel
set_option maxRecDepth 100000 in
theorem ckX11_ofBlock : mmChk mmPT mX11_ofBlock = true := by decide +kernel
set_option maxRecDepth 100000 in
theorem ckX11_form : mmChk mmPT mX11_form = true := by decide +kernel
set_option maxRecDepth 100000 in
theorem ckX11_pass : mmChk mmPT mX11_pass = true := by decide +kernel
set_option maxRecDepth 100000 in
theorem ckX11_ofPlace : mmChk mmPT mX11_ofPlace = true := by decide +kernel
set_option maxRecDepth 100000 in
theorem ckX11_valueAt : mmChk mmPT mX11_valueAt = true := by decide +kernel
set_option maxRecDepth 100000 in
theorem ckX11_edge : mmChk mmPT mX11_edge = true := by decide +kernel
set_option maxRecDepth 100000 in
theorem ckX11_ofValue : mmChk mmPT mX11_ofValue = true := by decide +kernel
set_option maxRecDepth 100000 in
theorem ckX11_argument : mmChk mmPT mX11_argument = true := by decide +kernel
set_option maxRecDepth 100000 in
theorem ckX11_number : mmChk mmPT mX11_number = true := by decide +kernel
set_option maxRecDepth 100000 in
theorem ckX11_run : mmChk mmPT mX11_run = true := by decide +kernel
set_option maxRecDepth 100000 in
theorem ckX11_runForm : mmChk mmPT mX11_runForm = true := by decide +kernel
set_option maxRecDepth 100000 in
theorem ckX11_ofRun : mmChk mmPT mX11_ofRun = true := by decide +kernel
set_option maxRecDepth 100000 in
theorem ckX11_printed : mmChk mmPT mX11_printed = true := by decide +kernel
set_option maxRecDepth 100000 in
theorem ckX11_cell : mmChk mmPT mX11_cell = true := by decide +kernel
set_option maxRecDepth 100000 in
theorem ckX11_many : mmChk mmPT mX11_many = true := by decide +kernel
set_option maxRecDepth 100000 in
theorem ckX11_wouldGo : mmChk mmPT mX11_wouldGo = true := by decide +kernel
set_option maxRecDepth 100000 in
theorem ckX11_wouldCost : mmChk mmPT mX11_wouldCost = true := by decide +kernel
set_option maxRecDepth 100000 in
theorem ckX11_untilStill : mmChk mmPT mX11_untilStill = true := by decide +kernel
set_option maxRecDepth 100000 in
theorem ckX11_isAlike : mmChk mmPT mX11_isAlike = true := by decide +kernel
set_option maxRecDepth 100000 in
theorem ckX11_digest : mmChk mmPT mX11_digest = true := by decide +kernel
set_option maxRecDepth 100000 in
theorem ckX11_isTold : mmChk mmPT mX11_isTold = true := by decide +kernel
set_option maxRecDepth 100000 in
theorem ckX11_isTarget : mmChk mmPT mX11_isTarget = true := by decide +kernel
set_option maxRecDepth 100000 in
theorem ckX11_isOperand : mmChk mmPT mX11_isOperand = true := by decide +kernel
set_option maxRecDepth 100000 in
theorem ckX11_isLine : mmChk mmPT mX11_isLine = true := by decide +kernel
set_option maxRecDepth 100000 in
theorem ckX11_isEnd : mmChk mmPT mX11_isEnd = true := by decide +kernel
set_option maxRecDepth 100000 in
theorem ckX11_isPass : mmChk mmPT mX11_isPass = true := by decide +kernel
set_option maxRecDepth 100000 in
theorem ckX11_isValue : mmChk mmPT mX11_isValue = true := by decide +kernel
set_option maxRecDepth 100000 in
theorem ckX11_isArgument : mmChk mmPT mX11_isArgument = true := by decide +kernel
set_option maxRecDepth 100000 in
theorem ckX11_countRun : mmChk mmPT mX11_countRun = true := by decide +kernel
set_option maxRecDepth 100000 in
theorem ckX11_manyOfForm : mmChk mmPT mX11_manyOfForm = true := by decide +kernel
set_option maxRecDepth 100000 in
theorem ckX11_passBehind : mmChk mmPT mX11_passBehind = true := by decide +kernel
set_option maxRecDepth 100000 in
theorem ckX11_passOver : mmChk mmPT mX11_passOver = true := by decide +kernel
set_option maxRecDepth 100000 in
theorem ckX11_mixed : mmChk mmPT mX11_mixed = true := by decide +kernel
set_option maxRecDepth 100000 in
theorem ckX11_mixedWithBlocks : mmChk mmPT mX11_mixedWithBlocks = true := by decide +kernel
set_option maxRecDepth 100000 in
theorem ckX11_mixedWithRun : mmChk mmPT mX11_mixedWithRun = true := by decide +kernel
set_option maxRecDepth 100000 in
theorem ckX11_mixedWithPlace : mmChk mmPT mX11_mixedWithPlace = true := by decide +kernel
set_option maxRecDepth 100000 in
theorem ckX11_mixedWithValue : mmChk mmPT mX11_mixedWithValue = true := by decide +kernel
set_option maxRecDepth 100000 in
theorem ckX11_bit : mmChk mmPT mX11_bit = true := by decide +kernel
set_option maxRecDepth 100000 in
theorem ckX11_has : mmChk mmPT mX11_has = true := by decide +kernel
set_option maxRecDepth 100000 in
theorem ckX11_sets : mmChk mmPT mX11_sets = true := by decide +kernel
set_option maxRecDepth 100000 in
theorem ckX11_isReckoning : mmChk mmPT mX11_isReckoning = true := by decide +kernel
set_option maxRecDepth 100000 in
theorem ckX11_variableOf : mmChk mmPT mX11_variableOf = true := by decide +kernel
set_option maxRecDepth 100000 in
theorem ckX11_fromOf : mmChk mmPT mX11_fromOf = true := by decide +kernel
set_option maxRecDepth 100000 in
theorem ckX11_reckoned : mmChk mmPT mX11_reckoned = true := by decide +kernel
set_option maxRecDepth 100000 in
theorem ckX11_costOf : mmChk mmPT mX11_costOf = true := by decide +kernel
set_option maxRecDepth 100000 in
theorem ckX12_init : mmChk mmPT mX12_init = true := by decide +kernel
set_option maxRecDepth 100000 in
theorem ckX12_isLine : mmChk mmPT mX12_isLine = true := by decide +kernel
set_option maxRecDepth 100000 in
theorem ckX12_isEnd : mmChk mmPT mX12_isEnd = true := by decide +kernel
set_option maxRecDepth 100000 in
theorem ckX12_operand : mmChk mmPT mX12_operand = true := by decide +kernel
set_option maxRecDepth 100000 in
theorem ckX12_isDrawn : mmChk mmPT mX12_isDrawn = true := by decide +kernel
set_option maxRecDepth 100000 in
theorem ckX12_isTold : mmChk mmPT mX12_isTold = true := by decide +kernel
set_option maxRecDepth 100000 in
theorem ckJ6_bitCount_0f7a4 : mmChk mmPT mJ6_bitCount_0f7a4 = true := by decide +kernel
set_option maxRecDepth 100000 in
theorem ckJ9_floorMod_7cf53 : mmChk mmPT mJ9_floorMod_7cf53 = true := by decide +kernel
set_option maxRecDepth 100000 in
theorem ckJ9_min_7cf53 : mmChk mmPT mJ9_min_7cf53 = true := by decide +kernel
set_option maxRecDepth 100000 in
theorem ckJ7_fill_53178 : mmChk mmPT mJ7_fill_53178 = true := by decide +kernel
set_option maxRecDepth 100000 in
theorem ckL_below : mmChk mmPT mL_below = true := by decide +kernel
set_option maxRecDepth 100000 in
theorem ckL_cell : mmChk mmPT mL_cell = true := by decide +kernel
set_option maxRecDepth 100000 in
theorem ckL_isCut : mmChk mmPT mL_isCut = true := by decide +kernel
set_option maxRecDepth 100000 in
theorem ckL_isRunRight : mmChk mmPT mL_isRunRight = true := by decide +kernel
set_option maxRecDepth 100000 in
theorem ckL_areBlocksRight : mmChk mmPT mL_areBlocksRight = true := by decide +kernel
set_option maxRecDepth 100000 in
theorem ckL_reachedSet : mmChk mmPT mL_reachedSet = true := by decide +kernel
set_option maxRecDepth 100000 in
theorem ckL_isFormRight : mmChk mmPT mL_isFormRight = true := by decide +kernel
