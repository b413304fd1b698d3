/-! printed by wip/whole/gen.py: every method checked against its bytes; the tables' words -/
set_option maxRecDepth 100000 in
theorem okX10_loadRunLength : mx_okM mx_TT mx_mt mX10_loadRunLength = true := by decide +kernel
set_option maxRecDepth 100000 in
theorem okX10_loadCharge : mx_okM mx_TT mx_mt mX10_loadCharge = true := by decide +kernel
set_option maxRecDepth 100000 in
theorem okX10_clear : mx_okM mx_TT mx_mt mX10_clear = true := by decide +kernel
set_option maxRecDepth 100000 in
theorem okX10_addState : mx_okM mx_TT mx_mt mX10_addState = true := by decide +kernel
set_option maxRecDepth 100000 in
theorem okX10_addEdge : mx_okM mx_TT mx_mt mX10_addEdge = true := by decide +kernel
set_option maxRecDepth 100000 in
theorem okX10_removeEdge : mx_okM mx_TT mx_mt mX10_removeEdge = true := by decide +kernel
set_option maxRecDepth 100000 in
theorem okX10_stateCount : mx_okM mx_TT mx_mt mX10_stateCount = true := by decide +kernel
set_option maxRecDepth 100000 in
theorem okX10_edgeCount : mx_okM mx_TT mx_mt mX10_edgeCount = true := by decide +kernel
set_option maxRecDepth 100000 in
theorem okX10_labelLength : mx_okM mx_TT mx_mt mX10_labelLength = true := by decide +kernel
set_option maxRecDepth 100000 in
theorem okX10_edgeStart : mx_okM mx_TT mx_mt mX10_edgeStart = true := by decide +kernel
set_option maxRecDepth 100000 in
theorem okX10_edgeLabel : mx_okM mx_TT mx_mt mX10_edgeLabel = true := by decide +kernel
set_option maxRecDepth 100000 in
theorem okX10_edgeEnd : mx_okM mx_TT mx_mt mX10_edgeEnd = true := by decide +kernel
set_option maxRecDepth 100000 in
theorem okX10_power : mx_okM mx_TT mx_mt mX10_power = true := by decide +kernel
set_option maxRecDepth 100000 in
theorem okX10_split : mx_okM mx_TT mx_mt mX10_split = true := by decide +kernel
set_option maxRecDepth 100000 in
theorem okX10_isDeterministic : mx_okM mx_TT mx_mt mX10_isDeterministic = true := by decide +kernel
set_option maxRecDepth 100000 in
theorem okX10_isIrreducible : mx_okM mx_TT mx_mt mX10_isIrreducible = true := by decide +kernel
set_option maxRecDepth 100000 in
theorem okX10_afterGraphChange : mx_okM mx_TT mx_mt mX10_afterGraphChange = true := by decide +kernel
set_option maxRecDepth 100000 in
theorem okX10_appendCharacter : mx_okM mx_TT mx_mt mX10_appendCharacter = true := by decide +kernel
set_option maxRecDepth 100000 in
theorem okX10_parseConstraint : mx_okM mx_TT mx_mt mX10_parseConstraint = true := by decide +kernel
set_option maxRecDepth 100000 in
theorem okX10_appendBit : mx_okM mx_TT mx_mt mX10_appendBit = true := by decide +kernel
set_option maxRecDepth 100000 in
theorem okX10_clearWord : mx_okM mx_TT mx_mt mX10_clearWord = true := by decide +kernel
set_option maxRecDepth 100000 in
theorem okX10_wordLength : mx_okM mx_TT mx_mt mX10_wordLength = true := by decide +kernel
set_option maxRecDepth 100000 in
theorem okX10_wordBit : mx_okM mx_TT mx_mt mX10_wordBit = true := by decide +kernel
set_option maxRecDepth 100000 in
theorem okX10_firstViolation : mx_okM mx_TT mx_mt mX10_firstViolation = true := by decide +kernel
set_option maxRecDepth 100000 in
theorem okX10_balance : mx_okM mx_TT mx_mt mX10_balance = true := by decide +kernel
set_option maxRecDepth 100000 in
theorem okX10_invert : mx_okM mx_TT mx_mt mX10_invert = true := by decide +kernel
set_option maxRecDepth 100000 in
theorem okX10_countWords : mx_okM mx_TT mx_mt mX10_countWords = true := by decide +kernel
set_option maxRecDepth 100000 in
theorem okX10_unrank : mx_okM mx_TT mx_mt mX10_unrank = true := by decide +kernel
set_option maxRecDepth 100000 in
theorem okX10_rank : mx_okM mx_TT mx_mt mX10_rank = true := by decide +kernel
set_option maxRecDepth 100000 in
theorem okX10_growthRate : mx_okM mx_TT mx_mt mX10_growthRate = true := by decide +kernel
set_option maxRecDepth 100000 in
theorem okX10_eigenvectorElement : mx_okM mx_TT mx_mt mX10_eigenvectorElement = true := by decide +kernel
set_option maxRecDepth 100000 in
theorem okX10_eigenvectorBound : mx_okM mx_TT mx_mt mX10_eigenvectorBound = true := by decide +kernel
set_option maxRecDepth 100000 in
theorem okX10_isEncoder : mx_okM mx_TT mx_mt mX10_isEncoder = true := by decide +kernel
set_option maxRecDepth 100000 in
theorem okX10_startEncoder : mx_okM mx_TT mx_mt mX10_startEncoder = true := by decide +kernel
set_option maxRecDepth 100000 in
theorem okX10_encode : mx_okM mx_TT mx_mt mX10_encode = true := by decide +kernel
set_option maxRecDepth 100000 in
theorem okX10_encoderState : mx_okM mx_TT mx_mt mX10_encoderState = true := by decide +kernel
set_option maxRecDepth 100000 in
theorem okX10_anticipation : mx_okM mx_TT mx_mt mX10_anticipation = true := by decide +kernel
set_option maxRecDepth 100000 in
theorem okX10_decode : mx_okM mx_TT mx_mt mX10_decode = true := by decide +kernel
set_option maxRecDepth 100000 in
theorem okX10_newArray : mx_okM mx_TT mx_mt mX10_newArray = true := by decide +kernel
set_option maxRecDepth 100000 in
theorem okX10_setElement : mx_okM mx_TT mx_mt mX10_setElement = true := by decide +kernel
set_option maxRecDepth 100000 in
theorem okX10_element : mx_okM mx_TT mx_mt mX10_element = true := by decide +kernel
set_option maxRecDepth 100000 in
theorem okX10_firstDifference : mx_okM mx_TT mx_mt mX10_firstDifference = true := by decide +kernel
set_option maxRecDepth 100000 in
theorem okX10_saveSnapshot : mx_okM mx_TT mx_mt mX10_saveSnapshot = true := by decide +kernel
set_option maxRecDepth 100000 in
theorem okX10_restoreSnapshot : mx_okM mx_TT mx_mt mX10_restoreSnapshot = true := by decide +kernel
set_option maxRecDepth 100000 in
theorem okX10_isDataLength : mx_okM mx_TT mx_mt mX10_isDataLength = true := by decide +kernel
set_option maxRecDepth 100000 in
theorem okX11_isIn : mx_okM mx_TT mx_mt mX11_isIn = true := by decide +kernel
set_option maxRecDepth 100000 in
theorem okX11_isState : mx_okM mx_TT mx_mt mX11_isState = true := by decide +kernel
set_option maxRecDepth 100000 in
theorem okX11_isEdge : mx_okM mx_TT mx_mt mX11_isEdge = true := by decide +kernel
set_option maxRecDepth 100000 in
theorem okX11_lays : mx_okM mx_TT mx_mt mX11_lays = true := by decide +kernel
set_option maxRecDepth 100000 in
theorem okX11_begins : mx_okM mx_TT mx_mt mX11_begins = true := by decide +kernel
set_option maxRecDepth 100000 in
theorem okX11_loadRunLength : mx_okM mx_TT mx_mt mX11_loadRunLength = true := by decide +kernel
set_option maxRecDepth 100000 in
theorem okX11_loadCharge : mx_okM mx_TT mx_mt mX11_loadCharge = true := by decide +kernel
set_option maxRecDepth 100000 in
theorem okX11_clear : mx_okM mx_TT mx_mt mX11_clear = true := by decide +kernel
set_option maxRecDepth 100000 in
theorem okX11_addState : mx_okM mx_TT mx_mt mX11_addState = true := by decide +kernel
set_option maxRecDepth 100000 in
theorem okX11_addEdge : mx_okM mx_TT mx_mt mX11_addEdge = true := by decide +kernel
set_option maxRecDepth 100000 in
theorem okX11_removeEdge : mx_okM mx_TT mx_mt mX11_removeEdge = true := by decide +kernel
set_option maxRecDepth 100000 in
theorem okX11_stateCount : mx_okM mx_TT mx_mt mX11_stateCount = true := by decide +kernel
set_option maxRecDepth 100000 in
theorem okX11_edgeCount : mx_okM mx_TT mx_mt mX11_edgeCount = true := by decide +kernel
set_option maxRecDepth 100000 in
theorem okX11_labelLength : mx_okM mx_TT mx_mt mX11_labelLength = true := by decide +kernel
set_option maxRecDepth 100000 in
theorem okX11_edgeStart : mx_okM mx_TT mx_mt mX11_edgeStart = true := by decide +kernel
set_option maxRecDepth 100000 in
theorem okX11_edgeLabel : mx_okM mx_TT mx_mt mX11_edgeLabel = true := by decide +kernel
set_option maxRecDepth 100000 in
theorem okX11_edgeEnd : mx_okM mx_TT mx_mt mX11_edgeEnd = true := by decide +kernel
set_option maxRecDepth 100000 in
theorem okX11_power : mx_okM mx_TT mx_mt mX11_power = true := by decide +kernel
set_option maxRecDepth 100000 in
theorem okX11_walks : mx_okM mx_TT mx_mt mX11_walks = true := by decide +kernel
set_option maxRecDepth 100000 in
theorem okX11_edgesOf : mx_okM mx_TT mx_mt mX11_edgesOf = true := by decide +kernel
set_option maxRecDepth 100000 in
theorem okX11_split : mx_okM mx_TT mx_mt mX11_split = true := by decide +kernel
set_option maxRecDepth 100000 in
theorem okX11_isDeterministicNow : mx_okM mx_TT mx_mt mX11_isDeterministicNow = true := by decide +kernel
set_option maxRecDepth 100000 in
theorem okX11_isDeterministic : mx_okM mx_TT mx_mt mX11_isDeterministic = true := by decide +kernel
set_option maxRecDepth 100000 in
theorem okX11_isIrreducible : mx_okM mx_TT mx_mt mX11_isIrreducible = true := by decide +kernel
set_option maxRecDepth 100000 in
theorem okX11_appendCharacter : mx_okM mx_TT mx_mt mX11_appendCharacter = true := by decide +kernel
set_option maxRecDepth 100000 in
theorem okX11_goes : mx_okM mx_TT mx_mt mX11_goes = true := by decide +kernel
set_option maxRecDepth 100000 in
theorem okX11_parseConstraint : mx_okM mx_TT mx_mt mX11_parseConstraint = true := by decide +kernel
set_option maxRecDepth 100000 in
theorem okX11_appendBit : mx_okM mx_TT mx_mt mX11_appendBit = true := by decide +kernel
set_option maxRecDepth 100000 in
theorem okX11_clearWord : mx_okM mx_TT mx_mt mX11_clearWord = true := by decide +kernel
set_option maxRecDepth 100000 in
theorem okX11_wordLength : mx_okM mx_TT mx_mt mX11_wordLength = true := by decide +kernel
set_option maxRecDepth 100000 in
theorem okX11_wordBit : mx_okM mx_TT mx_mt mX11_wordBit = true := by decide +kernel
set_option maxRecDepth 100000 in
theorem okX11_labelAt : mx_okM mx_TT mx_mt mX11_labelAt = true := by decide +kernel
set_option maxRecDepth 100000 in
theorem okX11_after : mx_okM mx_TT mx_mt mX11_after = true := by decide +kernel
set_option maxRecDepth 100000 in
theorem okX11_firstViolation : mx_okM mx_TT mx_mt mX11_firstViolation = true := by decide +kernel
set_option maxRecDepth 100000 in
theorem okX11_ones : mx_okM mx_TT mx_mt mX11_ones = true := by decide +kernel
set_option maxRecDepth 100000 in
theorem okX11_balance : mx_okM mx_TT mx_mt mX11_balance = true := by decide +kernel
set_option maxRecDepth 100000 in
theorem okX11_invert : mx_okM mx_TT mx_mt mX11_invert = true := by decide +kernel
set_option maxRecDepth 100000 in
theorem okX11_onesOf : mx_okM mx_TT mx_mt mX11_onesOf = true := by decide +kernel
set_option maxRecDepth 100000 in
theorem okX11_at : mx_okM mx_TT mx_mt mX11_at = true := by decide +kernel
set_option maxRecDepth 100000 in
theorem okX11_counts : mx_okM mx_TT mx_mt mX11_counts = true := by decide +kernel
set_option maxRecDepth 100000 in
theorem okX11_number : mx_okM mx_TT mx_mt mX11_number = true := by decide +kernel
set_option maxRecDepth 100000 in
theorem okX11_hinders : mx_okM mx_TT mx_mt mX11_hinders = true := by decide +kernel
set_option maxRecDepth 100000 in
theorem okX11_countWords : mx_okM mx_TT mx_mt mX11_countWords = true := by decide +kernel
set_option maxRecDepth 100000 in
theorem okX11_edgeBy : mx_okM mx_TT mx_mt mX11_edgeBy = true := by decide +kernel
set_option maxRecDepth 100000 in
theorem okX11_unrank : mx_okM mx_TT mx_mt mX11_unrank = true := by decide +kernel
set_option maxRecDepth 100000 in
theorem okX11_rank : mx_okM mx_TT mx_mt mX11_rank = true := by decide +kernel
set_option maxRecDepth 100000 in
theorem okX11_growthRate : mx_okM mx_TT mx_mt mX11_growthRate = true := by decide +kernel
set_option maxRecDepth 100000 in
theorem okX11_bound : mx_okM mx_TT mx_mt mX11_bound = true := by decide +kernel
set_option maxRecDepth 100000 in
theorem okX11_eigenvectorElement : mx_okM mx_TT mx_mt mX11_eigenvectorElement = true := by decide +kernel
set_option maxRecDepth 100000 in
theorem okX11_eigenvectorBound : mx_okM mx_TT mx_mt mX11_eigenvectorBound = true := by decide +kernel
set_option maxRecDepth 100000 in
theorem okX11_isEncoderFor : mx_okM mx_TT mx_mt mX11_isEncoderFor = true := by decide +kernel
set_option maxRecDepth 100000 in
theorem okX11_isEncoder : mx_okM mx_TT mx_mt mX11_isEncoder = true := by decide +kernel
set_option maxRecDepth 100000 in
theorem okX11_startEncoder : mx_okM mx_TT mx_mt mX11_startEncoder = true := by decide +kernel
set_option maxRecDepth 100000 in
theorem okX11_data : mx_okM mx_TT mx_mt mX11_data = true := by decide +kernel
set_option maxRecDepth 100000 in
theorem okX11_encode : mx_okM mx_TT mx_mt mX11_encode = true := by decide +kernel
set_option maxRecDepth 100000 in
theorem okX11_encoderState : mx_okM mx_TT mx_mt mX11_encoderState = true := by decide +kernel
set_option maxRecDepth 100000 in
theorem okX11_pairs : mx_okM mx_TT mx_mt mX11_pairs = true := by decide +kernel
set_option maxRecDepth 100000 in
theorem okX11_anticipation : mx_okM mx_TT mx_mt mX11_anticipation = true := by decide +kernel
set_option maxRecDepth 100000 in
theorem okX11_decode : mx_okM mx_TT mx_mt mX11_decode = true := by decide +kernel
set_option maxRecDepth 100000 in
theorem okX11_encoded : mx_okM mx_TT mx_mt mX11_encoded = true := by decide +kernel
set_option maxRecDepth 100000 in
theorem okX11_isSlot : mx_okM mx_TT mx_mt mX11_isSlot = true := by decide +kernel
set_option maxRecDepth 100000 in
theorem okX11_newArray : mx_okM mx_TT mx_mt mX11_newArray = true := by decide +kernel
set_option maxRecDepth 100000 in
theorem okX11_setElement : mx_okM mx_TT mx_mt mX11_setElement = true := by decide +kernel
set_option maxRecDepth 100000 in
theorem okX11_element : mx_okM mx_TT mx_mt mX11_element = true := by decide +kernel
set_option maxRecDepth 100000 in
theorem okX11_firstDifference : mx_okM mx_TT mx_mt mX11_firstDifference = true := by decide +kernel
set_option maxRecDepth 100000 in
theorem okX11_copies : mx_okM mx_TT mx_mt mX11_copies = true := by decide +kernel
set_option maxRecDepth 100000 in
theorem okX11_saveSnapshot : mx_okM mx_TT mx_mt mX11_saveSnapshot = true := by decide +kernel
set_option maxRecDepth 100000 in
theorem okX11_restoreSnapshot : mx_okM mx_TT mx_mt mX11_restoreSnapshot = true := by decide +kernel
set_option maxRecDepth 100000 in
theorem okX0_smallest : mx_okM mx_TT mx_mt mX0_smallest = true := by decide +kernel
set_option maxRecDepth 100000 in
theorem okX0_leavesFirstEdgeOpen : mx_okM mx_TT mx_mt mX0_leavesFirstEdgeOpen = true := by decide +kernel
set_option maxRecDepth 100000 in
theorem okX0_lengthenPaths : mx_okM mx_TT mx_mt mX0_lengthenPaths = true := by decide +kernel
set_option maxRecDepth 100000 in
theorem okX0_goTogether : mx_okM mx_TT mx_mt mX0_goTogether = true := by decide +kernel
set_option maxRecDepth 100000 in
theorem okX1_append : mx_okM mx_TT mx_mt mX1_append = true := by decide +kernel
set_option maxRecDepth 100000 in
theorem okX1_applyTo : mx_okM mx_TT mx_mt mX1_applyTo = true := by decide +kernel
set_option maxRecDepth 100000 in
theorem okX1_loadNamed : mx_okM mx_TT mx_mt mX1_loadNamed = true := by decide +kernel
set_option maxRecDepth 100000 in
theorem okX1_matchedBy : mx_okM mx_TT mx_mt mX1_matchedBy = true := by decide +kernel
set_option maxRecDepth 100000 in
theorem okX1_fits : mx_okM mx_TT mx_mt mX1_fits = true := by decide +kernel
set_option maxRecDepth 100000 in
theorem okX1_digitAt : mx_okM mx_TT mx_mt mX1_digitAt = true := by decide +kernel
set_option maxRecDepth 100000 in
theorem okX2_forget : mx_okM mx_TT mx_mt mX2_forget = true := by decide +kernel
set_option maxRecDepth 100000 in
theorem okX2_find : mx_okM mx_TT mx_mt mX2_find = true := by decide +kernel
set_option maxRecDepth 100000 in
theorem okX2_foundBound : mx_okM mx_TT mx_mt mX2_foundBound = true := by decide +kernel
set_option maxRecDepth 100000 in
theorem okX2_foundElement : mx_okM mx_TT mx_mt mX2_foundElement = true := by decide +kernel
set_option maxRecDepth 100000 in
theorem okX2_isNumber : mx_okM mx_TT mx_mt mX2_isNumber = true := by decide +kernel
set_option maxRecDepth 100000 in
theorem okX2_smallestBound : mx_okM mx_TT mx_mt mX2_smallestBound = true := by decide +kernel
set_option maxRecDepth 100000 in
theorem okX2_settle : mx_okM mx_TT mx_mt mX2_settle = true := by decide +kernel
set_option maxRecDepth 100000 in
theorem okX2_lower : mx_okM mx_TT mx_mt mX2_lower = true := by decide +kernel
set_option maxRecDepth 100000 in
theorem okX3_turnOff : mx_okM mx_TT mx_mt mX3_turnOff = true := by decide +kernel
set_option maxRecDepth 100000 in
theorem okX3_turnOn : mx_okM mx_TT mx_mt mX3_turnOn = true := by decide +kernel
set_option maxRecDepth 100000 in
theorem okX3_orderEdges : mx_okM mx_TT mx_mt mX3_orderEdges = true := by decide +kernel
set_option maxRecDepth 100000 in
theorem okX3_giveDataWord : mx_okM mx_TT mx_mt mX3_giveDataWord = true := by decide +kernel
set_option maxRecDepth 100000 in
theorem okX3_state : mx_okM mx_TT mx_mt mX3_state = true := by decide +kernel
set_option maxRecDepth 100000 in
theorem okX3_write : mx_okM mx_TT mx_mt mX3_write = true := by decide +kernel
set_option maxRecDepth 100000 in
theorem okX3_read : mx_okM mx_TT mx_mt mX3_read = true := by decide +kernel
set_option maxRecDepth 100000 in
theorem okX3_statesAfter : mx_okM mx_TT mx_mt mX3_statesAfter = true := by decide +kernel
set_option maxRecDepth 100000 in
theorem okX3_statesBefore : mx_okM mx_TT mx_mt mX3_statesBefore = true := by decide +kernel
set_option maxRecDepth 100000 in
theorem okX3_commonDataWord : mx_okM mx_TT mx_mt mX3_commonDataWord = true := by decide +kernel
set_option maxRecDepth 100000 in
theorem okX3_isTaken : mx_okM mx_TT mx_mt mX3_isTaken = true := by decide +kernel
set_option maxRecDepth 100000 in
theorem okX4_states : mx_okM mx_TT mx_mt mX4_states = true := by decide +kernel
set_option maxRecDepth 100000 in
theorem okX4_edges : mx_okM mx_TT mx_mt mX4_edges = true := by decide +kernel
set_option maxRecDepth 100000 in
theorem okX4_labelBits : mx_okM mx_TT mx_mt mX4_labelBits = true := by decide +kernel
set_option maxRecDepth 100000 in
theorem okX4_hasState : mx_okM mx_TT mx_mt mX4_hasState = true := by decide +kernel
set_option maxRecDepth 100000 in
theorem okX4_hasEdge : mx_okM mx_TT mx_mt mX4_hasEdge = true := by decide +kernel
set_option maxRecDepth 100000 in
theorem okX4_startOf : mx_okM mx_TT mx_mt mX4_startOf = true := by decide +kernel
set_option maxRecDepth 100000 in
theorem okX4_labelOf : mx_okM mx_TT mx_mt mX4_labelOf = true := by decide +kernel
set_option maxRecDepth 100000 in
theorem okX4_endOf : mx_okM mx_TT mx_mt mX4_endOf = true := by decide +kernel
set_option maxRecDepth 100000 in
theorem okX4_becomeEmpty : mx_okM mx_TT mx_mt mX4_becomeEmpty = true := by decide +kernel
set_option maxRecDepth 100000 in
theorem okX4_becomeRunLength : mx_okM mx_TT mx_mt mX4_becomeRunLength = true := by decide +kernel
set_option maxRecDepth 100000 in
theorem okX4_becomeCharge : mx_okM mx_TT mx_mt mX4_becomeCharge = true := by decide +kernel
set_option maxRecDepth 100000 in
theorem okX4_becomeCopyOf : mx_okM mx_TT mx_mt mX4_becomeCopyOf = true := by decide +kernel
set_option maxRecDepth 100000 in
theorem okX4_dropAllEdges : mx_okM mx_TT mx_mt mX4_dropAllEdges = true := by decide +kernel
set_option maxRecDepth 100000 in
theorem okX4_appendState : mx_okM mx_TT mx_mt mX4_appendState = true := by decide +kernel
set_option maxRecDepth 100000 in
theorem okX4_appendEdge : mx_okM mx_TT mx_mt mX4_appendEdge = true := by decide +kernel
set_option maxRecDepth 100000 in
theorem okX4_dropEdge : mx_okM mx_TT mx_mt mX4_dropEdge = true := by decide +kernel
set_option maxRecDepth 100000 in
theorem okX4_outDegree : mx_okM mx_TT mx_mt mX4_outDegree = true := by decide +kernel
set_option maxRecDepth 100000 in
theorem okX4_inDegree : mx_okM mx_TT mx_mt mX4_inDegree = true := by decide +kernel
set_option maxRecDepth 100000 in
theorem okX4_hasEdgesForAll : mx_okM mx_TT mx_mt mX4_hasEdgesForAll = true := by decide +kernel
set_option maxRecDepth 100000 in
theorem okX4_splitState : mx_okM mx_TT mx_mt mX4_splitState = true := by decide +kernel
set_option maxRecDepth 100000 in
theorem okX4_moveEdgesOutsideMask : mx_okM mx_TT mx_mt mX4_moveEdgesOutsideMask = true := by decide +kernel
set_option maxRecDepth 100000 in
theorem okX4_copyIncomingEdges : mx_okM mx_TT mx_mt mX4_copyIncomingEdges = true := by decide +kernel
set_option maxRecDepth 100000 in
theorem okX4_deterministic : mx_okM mx_TT mx_mt mX4_deterministic = true := by decide +kernel
set_option maxRecDepth 100000 in
theorem okX4_irreducible : mx_okM mx_TT mx_mt mX4_irreducible = true := by decide +kernel
set_option maxRecDepth 100000 in
theorem okX4_closeReachedStates : mx_okM mx_TT mx_mt mX4_closeReachedStates = true := by decide +kernel
set_option maxRecDepth 100000 in
theorem okX4_edgeWithLabel : mx_okM mx_TT mx_mt mX4_edgeWithLabel = true := by decide +kernel
set_option maxRecDepth 100000 in
theorem okX4_firstUngeneratedLabel : mx_okM mx_TT mx_mt mX4_firstUngeneratedLabel = true := by decide +kernel
set_option maxRecDepth 100000 in
theorem okX4_successors : mx_okM mx_TT mx_mt mX4_successors = true := by decide +kernel
set_option maxRecDepth 100000 in
theorem okX5_rateBits : mx_okM mx_TT mx_mt mX5_rateBits = true := by decide +kernel
set_option maxRecDepth 100000 in
theorem okX5_addEnds : mx_okM mx_TT mx_mt mX5_addEnds = true := by decide +kernel
set_option maxRecDepth 100000 in
theorem okX5_greatestSum : mx_okM mx_TT mx_mt mX5_greatestSum = true := by decide +kernel
set_option maxRecDepth 100000 in
theorem okX5_takeSums : mx_okM mx_TT mx_mt mX5_takeSums = true := by decide +kernel
set_option maxRecDepth 100000 in
theorem okX5_bitsOf : mx_okM mx_TT mx_mt mX5_bitsOf = true := by decide +kernel
set_option maxRecDepth 100000 in
theorem okX6_raise : mx_okM mx_TT mx_mt mX6_raise = true := by decide +kernel
set_option maxRecDepth 100000 in
theorem okX6_countPaths : mx_okM mx_TT mx_mt mX6_countPaths = true := by decide +kernel
set_option maxRecDepth 100000 in
theorem okX6_totalOfPaths : mx_okM mx_TT mx_mt mX6_totalOfPaths = true := by decide +kernel
set_option maxRecDepth 100000 in
theorem okX6_listEmptyPaths : mx_okM mx_TT mx_mt mX6_listEmptyPaths = true := by decide +kernel
set_option maxRecDepth 100000 in
theorem okX6_extendPaths : mx_okM mx_TT mx_mt mX6_extendPaths = true := by decide +kernel
set_option maxRecDepth 100000 in
theorem okX6_appendLonger : mx_okM mx_TT mx_mt mX6_appendLonger = true := by decide +kernel
set_option maxRecDepth 100000 in
theorem okX7_hasSlot : mx_okM mx_TT mx_mt mX7_hasSlot = true := by decide +kernel
set_option maxRecDepth 100000 in
theorem okX7_make : mx_okM mx_TT mx_mt mX7_make = true := by decide +kernel
set_option maxRecDepth 100000 in
theorem okX7_put : mx_okM mx_TT mx_mt mX7_put = true := by decide +kernel
set_option maxRecDepth 100000 in
theorem okX7_get : mx_okM mx_TT mx_mt mX7_get = true := by decide +kernel
set_option maxRecDepth 100000 in
theorem okX7_firstUnequal : mx_okM mx_TT mx_mt mX7_firstUnequal = true := by decide +kernel
set_option maxRecDepth 100000 in
theorem okX8_length : mx_okM mx_TT mx_mt mX8_length = true := by decide +kernel
set_option maxRecDepth 100000 in
theorem okX8_hasIndex : mx_okM mx_TT mx_mt mX8_hasIndex = true := by decide +kernel
set_option maxRecDepth 100000 in
theorem okX8_hasRoom : mx_okM mx_TT mx_mt mX8_hasRoom = true := by decide +kernel
set_option maxRecDepth 100000 in
theorem okX8_bit : mx_okM mx_TT mx_mt mX8_bit = true := by decide +kernel
set_option maxRecDepth 100000 in
theorem okX8_makeEmpty : mx_okM mx_TT mx_mt mX8_makeEmpty = true := by decide +kernel
set_option maxRecDepth 100000 in
theorem okX8_append : mx_okM mx_TT mx_mt mX8_append = true := by decide +kernel
set_option maxRecDepth 100000 in
theorem okX8_appendLabel : mx_okM mx_TT mx_mt mX8_appendLabel = true := by decide +kernel
set_option maxRecDepth 100000 in
theorem okX8_wholeLabels : mx_okM mx_TT mx_mt mX8_wholeLabels = true := by decide +kernel
set_option maxRecDepth 100000 in
theorem okX8_isMultipleOf : mx_okM mx_TT mx_mt mX8_isMultipleOf = true := by decide +kernel
set_option maxRecDepth 100000 in
theorem okX8_labelAt : mx_okM mx_TT mx_mt mX8_labelAt = true := by decide +kernel
set_option maxRecDepth 100000 in
theorem okX8_ones : mx_okM mx_TT mx_mt mX8_ones = true := by decide +kernel
set_option maxRecDepth 100000 in
theorem okX8_invertPrefix : mx_okM mx_TT mx_mt mX8_invertPrefix = true := by decide +kernel
set_option maxRecDepth 100000 in
theorem okX8_balanceByPrefix : mx_okM mx_TT mx_mt mX8_balanceByPrefix = true := by decide +kernel
set_option maxRecDepth 100000 in
theorem okX8_becomeCopyOf : mx_okM mx_TT mx_mt mX8_becomeCopyOf = true := by decide +kernel
set_option maxRecDepth 100000 in
theorem okX9_numberOfWords : mx_okM mx_TT mx_mt mX9_numberOfWords = true := by decide +kernel
set_option maxRecDepth 100000 in
theorem okX9_writeWordOfRank : mx_okM mx_TT mx_mt mX9_writeWordOfRank = true := by decide +kernel
set_option maxRecDepth 100000 in
theorem okX9_rankOfWord : mx_okM mx_TT mx_mt mX9_rankOfWord = true := by decide +kernel
set_option maxRecDepth 100000 in
theorem okX9_problemOf : mx_okM mx_TT mx_mt mX9_problemOf = true := by decide +kernel
set_option maxRecDepth 100000 in
theorem okX9_countAll : mx_okM mx_TT mx_mt mX9_countAll = true := by decide +kernel
set_option maxRecDepth 100000 in
theorem okX9_addThrough : mx_okM mx_TT mx_mt mX9_addThrough = true := by decide +kernel
set_option maxRecDepth 100000 in
theorem okX9_weightOf : mx_okM mx_TT mx_mt mX9_weightOf = true := by decide +kernel
set_option maxRecDepth 100000 in
theorem okX9_countAt : mx_okM mx_TT mx_mt mX9_countAt = true := by decide +kernel
set_option maxRecDepth 100000 in
theorem okX9_countThrough : mx_okM mx_TT mx_mt mX9_countThrough = true := by decide +kernel
set_option maxRecDepth 100000 in
theorem okJxe99ae_doubleToLongBits_ccdee : mx_okM mx_TT mx_mt mJxe99ae_doubleToLongBits_ccdee = true := by decide +kernel
set_option maxRecDepth 100000 in
theorem okJxe99ae_isNaN_b9ae7 : mx_okM mx_TT mx_mt mJxe99ae_isNaN_b9ae7 = true := by decide +kernel
set_option maxRecDepth 100000 in
theorem okJ6_bitCount_0f7a4 : mx_okM mx_TT mx_mt mJ6_bitCount_0f7a4 = true := by decide +kernel
set_option maxRecDepth 100000 in
theorem okJ7_fill_7f8df : mx_okM mx_TT mx_mt mJ7_fill_7f8df = true := by decide +kernel
set_option maxRecDepth 100000 in
theorem okJ7_fill_53178 : mx_okM mx_TT mx_mt mJ7_fill_53178 = true := by decide +kernel
set_option maxRecDepth 100000 in
theorem okJ7_fill_d0a16 : mx_okM mx_TT mx_mt mJ7_fill_d0a16 = true := by decide +kernel
def mx_big : List Jvm.Cond := lw_tbl.filter goodWord
theorem mx_bg (i : Nat) {w : Jvm.Cond} (h : lw_tbl[i]? = some w) (g : goodWord w = true) : w ∈ mx_big := List.mem_filter.mpr ⟨List.mem_of_getElem? h, g⟩
def mx_hF (q : String × Nat × Nat × Nat) : Prop := ∃ C TT N, vwCl[q.2.2.1]? = some (C, TT, N) ∧ q.2.2.2 < N ∧ (TT q.2.2.2).1 = C ∧ Jvm.Cond.fieldLink q.1 q.2.1 C (TT q.2.2.2).2.1 (TT q.2.2.2).2.2.1 ∈ mx_big
theorem mx_f0 : mx_hF ("ConstrainedCoder", 10, 10, 0) := ⟨RX10, TX10, 13, rfl, by decide, by decide +kernel, mx_bg 284 (by decide +kernel) (by decide +kernel)⟩
theorem mx_f1 : mx_hF ("ConstrainedCoder", 33, 10, 3) := ⟨RX10, TX10, 13, rfl, by decide, by decide +kernel, mx_bg 287 (by decide +kernel) (by decide +kernel)⟩
theorem mx_f2 : mx_hF ("ConstrainedCoder", 61, 10, 7) := ⟨RX10, TX10, 13, rfl, by decide, by decide +kernel, mx_bg 291 (by decide +kernel) (by decide +kernel)⟩
theorem mx_f3 : mx_hF ("ConstrainedCoder", 54, 10, 6) := ⟨RX10, TX10, 13, rfl, by decide, by decide +kernel, mx_bg 290 (by decide +kernel) (by decide +kernel)⟩
theorem mx_f4 : mx_hF ("ConstrainedCoder", 26, 10, 2) := ⟨RX10, TX10, 13, rfl, by decide, by decide +kernel, mx_bg 286 (by decide +kernel) (by decide +kernel)⟩
theorem mx_f5 : mx_hF ("ConstrainedCoder", 19, 10, 1) := ⟨RX10, TX10, 13, rfl, by decide, by decide +kernel, mx_bg 285 (by decide +kernel) (by decide +kernel)⟩
theorem mx_f6 : mx_hF ("ConstrainedCoder", 40, 10, 4) := ⟨RX10, TX10, 13, rfl, by decide, by decide +kernel, mx_bg 288 (by decide +kernel) (by decide +kernel)⟩
theorem mx_f7 : mx_hF ("ConstrainedCoder", 47, 10, 5) := ⟨RX10, TX10, 13, rfl, by decide, by decide +kernel, mx_bg 289 (by decide +kernel) (by decide +kernel)⟩
theorem mx_f8 : mx_hF ("ConstrainedCoder", 68, 10, 8) := ⟨RX10, TX10, 13, rfl, by decide, by decide +kernel, mx_bg 292 (by decide +kernel) (by decide +kernel)⟩
theorem mx_f9 : mx_hF ("ConstrainedCoder", 75, 10, 9) := ⟨RX10, TX10, 13, rfl, by decide, by decide +kernel, mx_bg 293 (by decide +kernel) (by decide +kernel)⟩
theorem mx_f10 : mx_hF ("ConstrainedCoder", 79, 10, 10) := ⟨RX10, TX10, 13, rfl, by decide, by decide +kernel, mx_bg 294 (by decide +kernel) (by decide +kernel)⟩
theorem mx_f11 : mx_hF ("ConstrainedCoder", 82, 10, 11) := ⟨RX10, TX10, 13, rfl, by decide, by decide +kernel, mx_bg 295 (by decide +kernel) (by decide +kernel)⟩
theorem mx_f12 : mx_hF ("ConstrainedCoder", 85, 10, 12) := ⟨RX10, TX10, 13, rfl, by decide, by decide +kernel, mx_bg 296 (by decide +kernel) (by decide +kernel)⟩
theorem mx_f13 : mx_hF ("ConstrainedCoderModel", 86, 11, 0) := ⟨RX11, TX11, 38, rfl, by decide, by decide +kernel, mx_bg 1043 (by decide +kernel) (by decide +kernel)⟩
theorem mx_f14 : mx_hF ("ConstrainedCoderModel", 93, 11, 1) := ⟨RX11, TX11, 38, rfl, by decide, by decide +kernel, mx_bg 1044 (by decide +kernel) (by decide +kernel)⟩
theorem mx_f15 : mx_hF ("ConstrainedCoderModel", 13, 11, 3) := ⟨RX11, TX11, 38, rfl, by decide, by decide +kernel, mx_bg 1046 (by decide +kernel) (by decide +kernel)⟩
theorem mx_f16 : mx_hF ("ConstrainedCoderModel", 17, 11, 4) := ⟨RX11, TX11, 38, rfl, by decide, by decide +kernel, mx_bg 1047 (by decide +kernel) (by decide +kernel)⟩
theorem mx_f17 : mx_hF ("ConstrainedCoderModel", 20, 11, 5) := ⟨RX11, TX11, 38, rfl, by decide, by decide +kernel, mx_bg 1048 (by decide +kernel) (by decide +kernel)⟩
theorem mx_f18 : mx_hF ("ConstrainedCoderModel", 7, 11, 2) := ⟨RX11, TX11, 38, rfl, by decide, by decide +kernel, mx_bg 1045 (by decide +kernel) (by decide +kernel)⟩
theorem mx_f19 : mx_hF ("ConstrainedCoderModel", 96, 11, 21) := ⟨RX11, TX11, 38, rfl, by decide, by decide +kernel, mx_bg 1064 (by decide +kernel) (by decide +kernel)⟩
theorem mx_f20 : mx_hF ("ConstrainedCoderModel", 47, 11, 24) := ⟨RX11, TX11, 38, rfl, by decide, by decide +kernel, mx_bg 1067 (by decide +kernel) (by decide +kernel)⟩
theorem mx_f21 : mx_hF ("ConstrainedCoderModel", 116, 11, 28) := ⟨RX11, TX11, 38, rfl, by decide, by decide +kernel, mx_bg 1071 (by decide +kernel) (by decide +kernel)⟩
theorem mx_f22 : mx_hF ("ConstrainedCoderModel", 119, 11, 29) := ⟨RX11, TX11, 38, rfl, by decide, by decide +kernel, mx_bg 1072 (by decide +kernel) (by decide +kernel)⟩
theorem mx_f23 : mx_hF ("ConstrainedCoderModel", 51, 11, 25) := ⟨RX11, TX11, 38, rfl, by decide, by decide +kernel, mx_bg 1068 (by decide +kernel) (by decide +kernel)⟩
theorem mx_f24 : mx_hF ("ConstrainedCoderModel", 54, 11, 26) := ⟨RX11, TX11, 38, rfl, by decide, by decide +kernel, mx_bg 1069 (by decide +kernel) (by decide +kernel)⟩
theorem mx_f25 : mx_hF ("ConstrainedCoderModel", 57, 11, 27) := ⟨RX11, TX11, 38, rfl, by decide, by decide +kernel, mx_bg 1070 (by decide +kernel) (by decide +kernel)⟩
theorem mx_f26 : mx_hF ("ConstrainedCoderModel", 134, 11, 18) := ⟨RX11, TX11, 38, rfl, by decide, by decide +kernel, mx_bg 1061 (by decide +kernel) (by decide +kernel)⟩
theorem mx_f27 : mx_hF ("ConstrainedCoderModel", 38, 11, 17) := ⟨RX11, TX11, 38, rfl, by decide, by decide +kernel, mx_bg 1060 (by decide +kernel) (by decide +kernel)⟩
theorem mx_f28 : mx_hF ("ConstrainedCoderModel", 161, 11, 7) := ⟨RX11, TX11, 38, rfl, by decide, by decide +kernel, mx_bg 1050 (by decide +kernel) (by decide +kernel)⟩
theorem mx_f29 : mx_hF ("ConstrainedCoderModel", 23, 11, 6) := ⟨RX11, TX11, 38, rfl, by decide, by decide +kernel, mx_bg 1049 (by decide +kernel) (by decide +kernel)⟩
theorem mx_f30 : mx_hF ("ConstrainedCoderModel", 60, 11, 30) := ⟨RX11, TX11, 38, rfl, by decide, by decide +kernel, mx_bg 1073 (by decide +kernel) (by decide +kernel)⟩
theorem mx_f31 : mx_hF ("ConstrainedCoderModel", 63, 11, 31) := ⟨RX11, TX11, 38, rfl, by decide, by decide +kernel, mx_bg 1074 (by decide +kernel) (by decide +kernel)⟩
theorem mx_f32 : mx_hF ("ConstrainedCoderModel", 67, 11, 32) := ⟨RX11, TX11, 38, rfl, by decide, by decide +kernel, mx_bg 1075 (by decide +kernel) (by decide +kernel)⟩
theorem mx_f33 : mx_hF ("ConstrainedCoderModel", 70, 11, 33) := ⟨RX11, TX11, 38, rfl, by decide, by decide +kernel, mx_bg 1076 (by decide +kernel) (by decide +kernel)⟩
theorem mx_f34 : mx_hF ("ConstrainedCoderModel", 73, 11, 34) := ⟨RX11, TX11, 38, rfl, by decide, by decide +kernel, mx_bg 1077 (by decide +kernel) (by decide +kernel)⟩
theorem mx_f35 : mx_hF ("ConstrainedCoderModel", 220, 11, 22) := ⟨RX11, TX11, 38, rfl, by decide, by decide +kernel, mx_bg 1065 (by decide +kernel) (by decide +kernel)⟩
theorem mx_f36 : mx_hF ("ConstrainedCoderModel", 223, 11, 23) := ⟨RX11, TX11, 38, rfl, by decide, by decide +kernel, mx_bg 1066 (by decide +kernel) (by decide +kernel)⟩
theorem mx_f37 : mx_hF ("ConstrainedCoderModel", 80, 11, 36) := ⟨RX11, TX11, 38, rfl, by decide, by decide +kernel, mx_bg 1079 (by decide +kernel) (by decide +kernel)⟩
theorem mx_f38 : mx_hF ("ConstrainedCoderModel", 76, 11, 35) := ⟨RX11, TX11, 38, rfl, by decide, by decide +kernel, mx_bg 1078 (by decide +kernel) (by decide +kernel)⟩
theorem mx_f39 : mx_hF ("ConstrainedCoderModel", 83, 11, 37) := ⟨RX11, TX11, 38, rfl, by decide, by decide +kernel, mx_bg 1080 (by decide +kernel) (by decide +kernel)⟩
theorem mx_f40 : mx_hF ("ConstrainedCoderModel", 44, 11, 20) := ⟨RX11, TX11, 38, rfl, by decide, by decide +kernel, mx_bg 1063 (by decide +kernel) (by decide +kernel)⟩
theorem mx_f41 : mx_hF ("ConstrainedCoderModel", 41, 11, 19) := ⟨RX11, TX11, 38, rfl, by decide, by decide +kernel, mx_bg 1062 (by decide +kernel) (by decide +kernel)⟩
theorem mx_f42 : mx_hF ("ConstrainedCoderModel", 238, 11, 8) := ⟨RX11, TX11, 38, rfl, by decide, by decide +kernel, mx_bg 1051 (by decide +kernel) (by decide +kernel)⟩
theorem mx_f43 : mx_hF ("ConstrainedCoderModel", 241, 11, 9) := ⟨RX11, TX11, 38, rfl, by decide, by decide +kernel, mx_bg 1052 (by decide +kernel) (by decide +kernel)⟩
theorem mx_f44 : mx_hF ("ConstrainedCoderModel", 244, 11, 10) := ⟨RX11, TX11, 38, rfl, by decide, by decide +kernel, mx_bg 1053 (by decide +kernel) (by decide +kernel)⟩
theorem mx_f45 : mx_hF ("ConstrainedCoderModel", 247, 11, 11) := ⟨RX11, TX11, 38, rfl, by decide, by decide +kernel, mx_bg 1054 (by decide +kernel) (by decide +kernel)⟩
theorem mx_f46 : mx_hF ("ConstrainedCoderModel", 26, 11, 12) := ⟨RX11, TX11, 38, rfl, by decide, by decide +kernel, mx_bg 1055 (by decide +kernel) (by decide +kernel)⟩
theorem mx_f47 : mx_hF ("ConstrainedCoderModel", 29, 11, 13) := ⟨RX11, TX11, 38, rfl, by decide, by decide +kernel, mx_bg 1056 (by decide +kernel) (by decide +kernel)⟩
theorem mx_f48 : mx_hF ("ConstrainedCoderModel", 32, 11, 14) := ⟨RX11, TX11, 38, rfl, by decide, by decide +kernel, mx_bg 1057 (by decide +kernel) (by decide +kernel)⟩
theorem mx_f49 : mx_hF ("ConstrainedCoderModel", 35, 11, 15) := ⟨RX11, TX11, 38, rfl, by decide, by decide +kernel, mx_bg 1058 (by decide +kernel) (by decide +kernel)⟩
theorem mx_f50 : mx_hF ("ConstrainedCoderModel", 254, 11, 16) := ⟨RX11, TX11, 38, rfl, by decide, by decide +kernel, mx_bg 1059 (by decide +kernel) (by decide +kernel)⟩
theorem mx_f51 : mx_hF ("ConstrainedCoder$AnticipationFinder", 11, 0, 0) := ⟨RX0, TX0, 2, rfl, by decide, by decide +kernel, mx_bg 259 (by decide +kernel) (by decide +kernel)⟩
theorem mx_f52 : mx_hF ("ConstrainedCoder$AnticipationFinder", 17, 0, 1) := ⟨RX0, TX0, 2, rfl, by decide, by decide +kernel, mx_bg 260 (by decide +kernel) (by decide +kernel)⟩
theorem mx_f53 : mx_hF ("ConstrainedCoder$ConstraintText", 15, 1, 1) := ⟨RX1, TX1, 2, rfl, by decide, by decide +kernel, mx_bg 136 (by decide +kernel) (by decide +kernel)⟩
theorem mx_f54 : mx_hF ("ConstrainedCoder$ConstraintText", 11, 1, 0) := ⟨RX1, TX1, 2, rfl, by decide, by decide +kernel, mx_bg 135 (by decide +kernel) (by decide +kernel)⟩
theorem mx_f55 : mx_hF ("ConstrainedCoder$EigenvectorFinder", 11, 2, 0) := ⟨RX2, TX2, 3, rfl, by decide, by decide +kernel, mx_bg 215 (by decide +kernel) (by decide +kernel)⟩
theorem mx_f56 : mx_hF ("ConstrainedCoder$EigenvectorFinder", 21, 2, 1) := ⟨RX2, TX2, 3, rfl, by decide, by decide +kernel, mx_bg 216 (by decide +kernel) (by decide +kernel)⟩
theorem mx_f57 : mx_hF ("ConstrainedCoder$EigenvectorFinder", 24, 2, 2) := ⟨RX2, TX2, 3, rfl, by decide, by decide +kernel, mx_bg 217 (by decide +kernel) (by decide +kernel)⟩
theorem mx_f58 : mx_hF ("ConstrainedCoder$Encoder", 23, 3, 3) := ⟨RX3, TX3, 7, rfl, by decide, by decide +kernel, mx_bg 234 (by decide +kernel) (by decide +kernel)⟩
theorem mx_f59 : mx_hF ("ConstrainedCoder$Encoder", 27, 3, 4) := ⟨RX3, TX3, 7, rfl, by decide, by decide +kernel, mx_bg 235 (by decide +kernel) (by decide +kernel)⟩
theorem mx_f60 : mx_hF ("ConstrainedCoder$Encoder", 31, 3, 5) := ⟨RX3, TX3, 7, rfl, by decide, by decide +kernel, mx_bg 236 (by decide +kernel) (by decide +kernel)⟩
theorem mx_f61 : mx_hF ("ConstrainedCoder$Encoder", 34, 3, 6) := ⟨RX3, TX3, 7, rfl, by decide, by decide +kernel, mx_bg 237 (by decide +kernel) (by decide +kernel)⟩
theorem mx_f62 : mx_hF ("ConstrainedCoder$Encoder", 20, 3, 2) := ⟨RX3, TX3, 7, rfl, by decide, by decide +kernel, mx_bg 233 (by decide +kernel) (by decide +kernel)⟩
theorem mx_f63 : mx_hF ("ConstrainedCoder$Encoder", 17, 3, 1) := ⟨RX3, TX3, 7, rfl, by decide, by decide +kernel, mx_bg 232 (by decide +kernel) (by decide +kernel)⟩
theorem mx_f64 : mx_hF ("ConstrainedCoder$Encoder", 13, 3, 0) := ⟨RX3, TX3, 7, rfl, by decide, by decide +kernel, mx_bg 231 (by decide +kernel) (by decide +kernel)⟩
theorem mx_f65 : mx_hF ("ConstrainedCoder$Graph", 24, 4, 4) := ⟨RX4, TX4, 7, rfl, by decide, by decide +kernel, mx_bg 97 (by decide +kernel) (by decide +kernel)⟩
theorem mx_f66 : mx_hF ("ConstrainedCoder$Graph", 28, 4, 5) := ⟨RX4, TX4, 7, rfl, by decide, by decide +kernel, mx_bg 98 (by decide +kernel) (by decide +kernel)⟩
theorem mx_f67 : mx_hF ("ConstrainedCoder$Graph", 31, 4, 6) := ⟨RX4, TX4, 7, rfl, by decide, by decide +kernel, mx_bg 99 (by decide +kernel) (by decide +kernel)⟩
theorem mx_f68 : mx_hF ("ConstrainedCoder$Graph", 11, 4, 0) := ⟨RX4, TX4, 7, rfl, by decide, by decide +kernel, mx_bg 93 (by decide +kernel) (by decide +kernel)⟩
theorem mx_f69 : mx_hF ("ConstrainedCoder$Graph", 15, 4, 1) := ⟨RX4, TX4, 7, rfl, by decide, by decide +kernel, mx_bg 94 (by decide +kernel) (by decide +kernel)⟩
theorem mx_f70 : mx_hF ("ConstrainedCoder$Graph", 18, 4, 2) := ⟨RX4, TX4, 7, rfl, by decide, by decide +kernel, mx_bg 95 (by decide +kernel) (by decide +kernel)⟩
theorem mx_f71 : mx_hF ("ConstrainedCoder$Graph", 21, 4, 3) := ⟨RX4, TX4, 7, rfl, by decide, by decide +kernel, mx_bg 96 (by decide +kernel) (by decide +kernel)⟩
theorem mx_f72 : mx_hF ("ConstrainedCoder$GrowthEstimator", 13, 5, 0) := ⟨RX5, TX5, 2, rfl, by decide, by decide +kernel, mx_bg 200 (by decide +kernel) (by decide +kernel)⟩
theorem mx_f73 : mx_hF ("ConstrainedCoder$GrowthEstimator", 17, 5, 1) := ⟨RX5, TX5, 2, rfl, by decide, by decide +kernel, mx_bg 201 (by decide +kernel) (by decide +kernel)⟩
theorem mx_f74 : mx_hF ("ConstrainedCoder$PowerBuilder", 37, 6, 7) := ⟨RX6, TX6, 9, rfl, by decide, by decide +kernel, mx_bg 157 (by decide +kernel) (by decide +kernel)⟩
theorem mx_f75 : mx_hF ("ConstrainedCoder$PowerBuilder", 18, 6, 1) := ⟨RX6, TX6, 9, rfl, by decide, by decide +kernel, mx_bg 151 (by decide +kernel) (by decide +kernel)⟩
theorem mx_f76 : mx_hF ("ConstrainedCoder$PowerBuilder", 22, 6, 2) := ⟨RX6, TX6, 9, rfl, by decide, by decide +kernel, mx_bg 152 (by decide +kernel) (by decide +kernel)⟩
theorem mx_f77 : mx_hF ("ConstrainedCoder$PowerBuilder", 25, 6, 3) := ⟨RX6, TX6, 9, rfl, by decide, by decide +kernel, mx_bg 153 (by decide +kernel) (by decide +kernel)⟩
theorem mx_f78 : mx_hF ("ConstrainedCoder$PowerBuilder", 15, 6, 0) := ⟨RX6, TX6, 9, rfl, by decide, by decide +kernel, mx_bg 150 (by decide +kernel) (by decide +kernel)⟩
theorem mx_f79 : mx_hF ("ConstrainedCoder$PowerBuilder", 41, 6, 8) := ⟨RX6, TX6, 9, rfl, by decide, by decide +kernel, mx_bg 158 (by decide +kernel) (by decide +kernel)⟩
theorem mx_f80 : mx_hF ("ConstrainedCoder$PowerBuilder", 28, 6, 4) := ⟨RX6, TX6, 9, rfl, by decide, by decide +kernel, mx_bg 154 (by decide +kernel) (by decide +kernel)⟩
theorem mx_f81 : mx_hF ("ConstrainedCoder$PowerBuilder", 31, 6, 5) := ⟨RX6, TX6, 9, rfl, by decide, by decide +kernel, mx_bg 155 (by decide +kernel) (by decide +kernel)⟩
theorem mx_f82 : mx_hF ("ConstrainedCoder$PowerBuilder", 34, 6, 6) := ⟨RX6, TX6, 9, rfl, by decide, by decide +kernel, mx_bg 156 (by decide +kernel) (by decide +kernel)⟩
theorem mx_f83 : mx_hF ("ConstrainedCoder$Slots", 13, 7, 0) := ⟨RX7, TX7, 3, rfl, by decide, by decide +kernel, mx_bg 273 (by decide +kernel) (by decide +kernel)⟩
theorem mx_f84 : mx_hF ("ConstrainedCoder$Slots", 16, 7, 1) := ⟨RX7, TX7, 3, rfl, by decide, by decide +kernel, mx_bg 274 (by decide +kernel) (by decide +kernel)⟩
theorem mx_f85 : mx_hF ("ConstrainedCoder$Slots", 20, 7, 2) := ⟨RX7, TX7, 3, rfl, by decide, by decide +kernel, mx_bg 275 (by decide +kernel) (by decide +kernel)⟩
theorem mx_f86 : mx_hF ("ConstrainedCoder$Word", 15, 8, 1) := ⟨RX8, TX8, 2, rfl, by decide, by decide +kernel, mx_bg 123 (by decide +kernel) (by decide +kernel)⟩
theorem mx_f87 : mx_hF ("ConstrainedCoder$Word", 11, 8, 0) := ⟨RX8, TX8, 2, rfl, by decide, by decide +kernel, mx_bg 122 (by decide +kernel) (by decide +kernel)⟩
theorem mx_f88 : mx_hF ("ConstrainedCoder$WordCounter", 20, 9, 1) := ⟨RX9, TX9, 2, rfl, by decide, by decide +kernel, mx_bg 187 (by decide +kernel) (by decide +kernel)⟩
theorem mx_f89 : mx_hF ("ConstrainedCoder$WordCounter", 17, 9, 0) := ⟨RX9, TX9, 2, rfl, by decide, by decide +kernel, mx_bg 186 (by decide +kernel) (by decide +kernel)⟩
set_option maxRecDepth 100000 in
theorem mx_hFs : ∀ q ∈ mx_fls, mx_hF q := List.forall_mem_cons.mpr ⟨mx_f0, List.forall_mem_cons.mpr ⟨mx_f1, List.forall_mem_cons.mpr ⟨mx_f2, List.forall_mem_cons.mpr ⟨mx_f3, List.forall_mem_cons.mpr ⟨mx_f4, List.forall_mem_cons.mpr ⟨mx_f5, List.forall_mem_cons.mpr ⟨mx_f6, List.forall_mem_cons.mpr ⟨mx_f7, List.forall_mem_cons.mpr ⟨mx_f8, List.forall_mem_cons.mpr ⟨mx_f9, List.forall_mem_cons.mpr ⟨mx_f10, List.forall_mem_cons.mpr ⟨mx_f11, List.forall_mem_cons.mpr ⟨mx_f12, List.forall_mem_cons.mpr ⟨mx_f13, List.forall_mem_cons.mpr ⟨mx_f14, List.forall_mem_cons.mpr ⟨mx_f15, List.forall_mem_cons.mpr ⟨mx_f16, List.forall_mem_cons.mpr ⟨mx_f17, List.forall_mem_cons.mpr ⟨mx_f18, List.forall_mem_cons.mpr ⟨mx_f19, List.forall_mem_cons.mpr ⟨mx_f20, List.forall_mem_cons.mpr ⟨mx_f21, List.forall_mem_cons.mpr ⟨mx_f22, List.forall_mem_cons.mpr ⟨mx_f23, List.forall_mem_cons.mpr ⟨mx_f24, List.forall_mem_cons.mpr ⟨mx_f25, List.forall_mem_cons.mpr ⟨mx_f26, List.forall_mem_cons.mpr ⟨mx_f27, List.forall_mem_cons.mpr ⟨mx_f28, List.forall_mem_cons.mpr ⟨mx_f29, List.forall_mem_cons.mpr ⟨mx_f30, List.forall_mem_cons.mpr ⟨mx_f31, List.forall_mem_cons.mpr ⟨mx_f32, List.forall_mem_cons.mpr ⟨mx_f33, List.forall_mem_cons.mpr ⟨mx_f34, List.forall_mem_cons.mpr ⟨mx_f35, List.forall_mem_cons.mpr ⟨mx_f36, List.forall_mem_cons.mpr ⟨mx_f37, List.forall_mem_cons.mpr ⟨mx_f38, List.forall_mem_cons.mpr ⟨mx_f39, List.forall_mem_cons.mpr ⟨mx_f40, List.forall_mem_cons.mpr ⟨mx_f41, List.forall_mem_cons.mpr ⟨mx_f42, List.forall_mem_cons.mpr ⟨mx_f43, List.forall_mem_cons.mpr ⟨mx_f44, List.forall_mem_cons.mpr ⟨mx_f45, List.forall_mem_cons.mpr ⟨mx_f46, List.forall_mem_cons.mpr ⟨mx_f47, List.forall_mem_cons.mpr ⟨mx_f48, List.forall_mem_cons.mpr ⟨mx_f49, List.forall_mem_cons.mpr ⟨mx_f50, List.forall_mem_cons.mpr ⟨mx_f51, List.forall_mem_cons.mpr ⟨mx_f52, List.forall_mem_cons.mpr ⟨mx_f53, List.forall_mem_cons.mpr ⟨mx_f54, List.forall_mem_cons.mpr ⟨mx_f55, List.forall_mem_cons.mpr ⟨mx_f56, List.forall_mem_cons.mpr ⟨mx_f57, List.forall_mem_cons.mpr ⟨mx_f58, List.forall_mem_cons.mpr ⟨mx_f59, List.forall_mem_cons.mpr ⟨mx_f60, List.forall_mem_cons.mpr ⟨mx_f61, List.forall_mem_cons.mpr ⟨mx_f62, List.forall_mem_cons.mpr ⟨mx_f63, List.forall_mem_cons.mpr ⟨mx_f64, List.forall_mem_cons.mpr ⟨mx_f65, List.forall_mem_cons.mpr ⟨mx_f66, List.forall_mem_cons.mpr ⟨mx_f67, List.forall_mem_cons.mpr ⟨mx_f68, List.forall_mem_cons.mpr ⟨mx_f69, List.forall_mem_cons.mpr ⟨mx_f70, List.forall_mem_cons.mpr ⟨mx_f71, List.forall_mem_cons.mpr ⟨mx_f72, List.forall_mem_cons.mpr ⟨mx_f73, List.forall_mem_cons.mpr ⟨mx_f74, List.forall_mem_cons.mpr ⟨mx_f75, List.forall_mem_cons.mpr ⟨mx_f76, List.forall_mem_cons.mpr ⟨mx_f77, List.forall_mem_cons.mpr ⟨mx_f78, List.forall_mem_cons.mpr ⟨mx_f79, List.forall_mem_cons.mpr ⟨mx_f80, List.forall_mem_cons.mpr ⟨mx_f81, List.forall_mem_cons.mpr ⟨mx_f82, List.forall_mem_cons.mpr ⟨mx_f83, List.forall_mem_cons.mpr ⟨mx_f84, List.forall_mem_cons.mpr ⟨mx_f85, List.forall_mem_cons.mpr ⟨mx_f86, List.forall_mem_cons.mpr ⟨mx_f87, List.forall_mem_cons.mpr ⟨mx_f88, List.forall_mem_cons.mpr ⟨mx_f89, fun _ h => absurd h List.not_mem_nil⟩⟩⟩⟩⟩⟩⟩⟩⟩⟩⟩⟩⟩⟩⟩⟩⟩⟩⟩⟩⟩⟩⟩⟩⟩⟩⟩⟩⟩⟩⟩⟩⟩⟩⟩⟩⟩⟩⟩⟩⟩⟩⟩⟩⟩⟩⟩⟩⟩⟩⟩⟩⟩⟩⟩⟩⟩⟩⟩⟩⟩⟩⟩⟩⟩⟩⟩⟩⟩⟩⟩⟩⟩⟩⟩⟩⟩⟩⟩⟩⟩⟩⟩⟩⟩⟩⟩⟩⟩⟩
def mx_hM (q : String × Nat × Nat) : Prop := (∀ m, mx_mt q.2.2 = some m → Jvm.Cond.methodLink q.1 q.2.1 m.1 ∈ mx_big) ∧ (q.2.2 = 1002 → Jvm.Cond.methodLink q.1 q.2.1 arraycopyName ∈ mx_big) ∧ (q.2.2 = 1003 → Jvm.Cond.methodLink q.1 q.2.1 ⟨"java/lang/Double", "doubleToRawLongBits", "(D)J"⟩ ∈ mx_big) ∧ (q.2.2 = 1006 → Jvm.Cond.methodLink q.1 q.2.1 Lib.Math.max.name ∈ mx_big) ∧ (q.2.2 = 1007 → Jvm.Cond.methodLink q.1 q.2.1 Lib.Math.min.name ∈ mx_big)
theorem mx_m0 : mx_hM ("ConstrainedCoder", 89, 151) := ⟨fun m h => by cases h; exact mx_bg 328 (by decide +kernel) (by decide +kernel), fun h => absurd h (by decide), fun h => absurd h (by decide), fun h => absurd h (by decide), fun h => absurd h (by decide)⟩
theorem mx_m1 : mx_hM ("ConstrainedCoder", 93, 16) := ⟨fun m h => by cases h; exact mx_bg 344 (by decide +kernel) (by decide +kernel), fun h => absurd h (by decide), fun h => absurd h (by decide), fun h => absurd h (by decide), fun h => absurd h (by decide)⟩
theorem mx_m2 : mx_hM ("ConstrainedCoder", 97, 152) := ⟨fun m h => by cases h; exact mx_bg 363 (by decide +kernel) (by decide +kernel), fun h => absurd h (by decide), fun h => absurd h (by decide), fun h => absurd h (by decide), fun h => absurd h (by decide)⟩
theorem mx_m3 : mx_hM ("ConstrainedCoder", 100, 150) := ⟨fun m h => by cases h; exact mx_bg 371 (by decide +kernel) (by decide +kernel), fun h => absurd h (by decide), fun h => absurd h (by decide), fun h => absurd h (by decide), fun h => absurd h (by decide)⟩
theorem mx_m4 : mx_hM ("ConstrainedCoder", 103, 155) := ⟨fun m h => by cases h; exact mx_bg 376 (by decide +kernel) (by decide +kernel), fun h => absurd h (by decide), fun h => absurd h (by decide), fun h => absurd h (by decide), fun h => absurd h (by decide)⟩
theorem mx_m5 : mx_hM ("ConstrainedCoder", 107, 156) := ⟨fun m h => by cases h; exact mx_bg 384 (by decide +kernel) (by decide +kernel), fun h => absurd h (by decide), fun h => absurd h (by decide), fun h => absurd h (by decide), fun h => absurd h (by decide)⟩
theorem mx_m6 : mx_hM ("ConstrainedCoder", 111, 157) := ⟨fun m h => by cases h; exact mx_bg 389 (by decide +kernel) (by decide +kernel), fun h => absurd h (by decide), fun h => absurd h (by decide), fun h => absurd h (by decide), fun h => absurd h (by decide)⟩
theorem mx_m7 : mx_hM ("ConstrainedCoder", 114, 142) := ⟨fun m h => by cases h; exact mx_bg 401 (by decide +kernel) (by decide +kernel), fun h => absurd h (by decide), fun h => absurd h (by decide), fun h => absurd h (by decide), fun h => absurd h (by decide)⟩
theorem mx_m8 : mx_hM ("ConstrainedCoder", 117, 143) := ⟨fun m h => by cases h; exact mx_bg 409 (by decide +kernel) (by decide +kernel), fun h => absurd h (by decide), fun h => absurd h (by decide), fun h => absurd h (by decide), fun h => absurd h (by decide)⟩
theorem mx_m9 : mx_hM ("ConstrainedCoder", 120, 144) := ⟨fun m h => by cases h; exact mx_bg 417 (by decide +kernel) (by decide +kernel), fun h => absurd h (by decide), fun h => absurd h (by decide), fun h => absurd h (by decide), fun h => absurd h (by decide)⟩
theorem mx_m10 : mx_hM ("ConstrainedCoder", 123, 146) := ⟨fun m h => by cases h; exact mx_bg 425 (by decide +kernel) (by decide +kernel), fun h => absurd h (by decide), fun h => absurd h (by decide), fun h => absurd h (by decide), fun h => absurd h (by decide)⟩
theorem mx_m11 : mx_hM ("ConstrainedCoder", 127, 147) := ⟨fun m h => by cases h; exact mx_bg 426 (by decide +kernel) (by decide +kernel), fun h => absurd h (by decide), fun h => absurd h (by decide), fun h => absurd h (by decide), fun h => absurd h (by decide)⟩
theorem mx_m12 : mx_hM ("ConstrainedCoder", 130, 148) := ⟨fun m h => by cases h; exact mx_bg 434 (by decide +kernel) (by decide +kernel), fun h => absurd h (by decide), fun h => absurd h (by decide), fun h => absurd h (by decide), fun h => absurd h (by decide)⟩
theorem mx_m13 : mx_hM ("ConstrainedCoder", 133, 149) := ⟨fun m h => by cases h; exact mx_bg 442 (by decide +kernel) (by decide +kernel), fun h => absurd h (by decide), fun h => absurd h (by decide), fun h => absurd h (by decide), fun h => absurd h (by decide)⟩
theorem mx_m14 : mx_hM ("ConstrainedCoder", 136, 175) := ⟨fun m h => by cases h; exact mx_bg 450 (by decide +kernel) (by decide +kernel), fun h => absurd h (by decide), fun h => absurd h (by decide), fun h => absurd h (by decide), fun h => absurd h (by decide)⟩
theorem mx_m15 : mx_hM ("ConstrainedCoder", 140, 161) := ⟨fun m h => by cases h; exact mx_bg 493 (by decide +kernel) (by decide +kernel), fun h => absurd h (by decide), fun h => absurd h (by decide), fun h => absurd h (by decide), fun h => absurd h (by decide)⟩
theorem mx_m16 : mx_hM ("ConstrainedCoder", 143, 164) := ⟨fun m h => by cases h; exact mx_bg 521 (by decide +kernel) (by decide +kernel), fun h => absurd h (by decide), fun h => absurd h (by decide), fun h => absurd h (by decide), fun h => absurd h (by decide)⟩
theorem mx_m17 : mx_hM ("ConstrainedCoder", 147, 165) := ⟨fun m h => by cases h; exact mx_bg 529 (by decide +kernel) (by decide +kernel), fun h => absurd h (by decide), fun h => absurd h (by decide), fun h => absurd h (by decide), fun h => absurd h (by decide)⟩
theorem mx_m18 : mx_hM ("ConstrainedCoder", 150, 131) := ⟨fun m h => by cases h; exact mx_bg 348 (by decide +kernel) (by decide +kernel), fun h => absurd h (by decide), fun h => absurd h (by decide), fun h => absurd h (by decide), fun h => absurd h (by decide)⟩
theorem mx_m19 : mx_hM ("ConstrainedCoder", 153, 123) := ⟨fun m h => by cases h; exact mx_bg 352 (by decide +kernel) (by decide +kernel), fun h => absurd h (by decide), fun h => absurd h (by decide), fun h => absurd h (by decide), fun h => absurd h (by decide)⟩
theorem mx_m20 : mx_hM ("ConstrainedCoder", 156, 117) := ⟨fun m h => by cases h; exact mx_bg 541 (by decide +kernel) (by decide +kernel), fun h => absurd h (by decide), fun h => absurd h (by decide), fun h => absurd h (by decide), fun h => absurd h (by decide)⟩
theorem mx_m21 : mx_hM ("ConstrainedCoder", 159, 118) := ⟨fun m h => by cases h; exact mx_bg 549 (by decide +kernel) (by decide +kernel), fun h => absurd h (by decide), fun h => absurd h (by decide), fun h => absurd h (by decide), fun h => absurd h (by decide)⟩
theorem mx_m22 : mx_hM ("ConstrainedCoder", 163, 191) := ⟨fun m h => by cases h; exact mx_bg 629 (by decide +kernel) (by decide +kernel), fun h => absurd h (by decide), fun h => absurd h (by decide), fun h => absurd h (by decide), fun h => absurd h (by decide)⟩
theorem mx_m23 : mx_hM ("ConstrainedCoder", 164, 186) := ⟨fun m h => by cases h; exact mx_bg 641 (by decide +kernel) (by decide +kernel), fun h => absurd h (by decide), fun h => absurd h (by decide), fun h => absurd h (by decide), fun h => absurd h (by decide)⟩
theorem mx_m24 : mx_hM ("ConstrainedCoder", 167, 190) := ⟨fun m h => by cases h; exact mx_bg 645 (by decide +kernel) (by decide +kernel), fun h => absurd h (by decide), fun h => absurd h (by decide), fun h => absurd h (by decide), fun h => absurd h (by decide)⟩
theorem mx_m25 : mx_hM ("ConstrainedCoder", 170, 189) := ⟨fun m h => by cases h; exact mx_bg 657 (by decide +kernel) (by decide +kernel), fun h => absurd h (by decide), fun h => absurd h (by decide), fun h => absurd h (by decide), fun h => absurd h (by decide)⟩
theorem mx_m26 : mx_hM ("ConstrainedCoder", 173, 168) := ⟨fun m h => by cases h; exact mx_bg 669 (by decide +kernel) (by decide +kernel), fun h => absurd h (by decide), fun h => absurd h (by decide), fun h => absurd h (by decide), fun h => absurd h (by decide)⟩
theorem mx_m27 : mx_hM ("ConstrainedCoder", 177, 198) := ⟨fun m h => by cases h; exact mx_bg 690 (by decide +kernel) (by decide +kernel), fun h => absurd h (by decide), fun h => absurd h (by decide), fun h => absurd h (by decide), fun h => absurd h (by decide)⟩
theorem mx_m28 : mx_hM ("ConstrainedCoder", 180, 197) := ⟨fun m h => by cases h; exact mx_bg 706 (by decide +kernel) (by decide +kernel), fun h => absurd h (by decide), fun h => absurd h (by decide), fun h => absurd h (by decide), fun h => absurd h (by decide)⟩
theorem mx_m29 : mx_hM ("ConstrainedCoder", 183, 200) := ⟨fun m h => by cases h; exact mx_bg 711 (by decide +kernel) (by decide +kernel), fun h => absurd h (by decide), fun h => absurd h (by decide), fun h => absurd h (by decide), fun h => absurd h (by decide)⟩
theorem mx_m30 : mx_hM ("ConstrainedCoder", 187, 201) := ⟨fun m h => by cases h; exact mx_bg 756 (by decide +kernel) (by decide +kernel), fun h => absurd h (by decide), fun h => absurd h (by decide), fun h => absurd h (by decide), fun h => absurd h (by decide)⟩
theorem mx_m31 : mx_hM ("ConstrainedCoder", 191, 202) := ⟨fun m h => by cases h; exact mx_bg 779 (by decide +kernel) (by decide +kernel), fun h => absurd h (by decide), fun h => absurd h (by decide), fun h => absurd h (by decide), fun h => absurd h (by decide)⟩
theorem mx_m32 : mx_hM ("ConstrainedCoder", 195, 170) := ⟨fun m h => by cases h; exact mx_bg 795 (by decide +kernel) (by decide +kernel), fun h => absurd h (by decide), fun h => absurd h (by decide), fun h => absurd h (by decide), fun h => absurd h (by decide)⟩
theorem mx_m33 : mx_hM ("ConstrainedCoder", 199, 44) := ⟨fun m h => by cases h; exact mx_bg 830 (by decide +kernel) (by decide +kernel), fun h => absurd h (by decide), fun h => absurd h (by decide), fun h => absurd h (by decide), fun h => absurd h (by decide)⟩
theorem mx_m34 : mx_hM ("ConstrainedCoder", 202, 145) := ⟨fun m h => by cases h; exact mx_bg 833 (by decide +kernel) (by decide +kernel), fun h => absurd h (by decide), fun h => absurd h (by decide), fun h => absurd h (by decide), fun h => absurd h (by decide)⟩
theorem mx_m35 : mx_hM ("ConstrainedCoder", 205, 124) := ⟨fun m h => by cases h; exact mx_bg 834 (by decide +kernel) (by decide +kernel), fun h => absurd h (by decide), fun h => absurd h (by decide), fun h => absurd h (by decide), fun h => absurd h (by decide)⟩
theorem mx_m36 : mx_hM ("ConstrainedCoder", 209, 126) := ⟨fun m h => by cases h; exact mx_bg 858 (by decide +kernel) (by decide +kernel), fun h => absurd h (by decide), fun h => absurd h (by decide), fun h => absurd h (by decide), fun h => absurd h (by decide)⟩
theorem mx_m37 : mx_hM ("ConstrainedCoder", 212, 125) := ⟨fun m h => by cases h; exact mx_bg 866 (by decide +kernel) (by decide +kernel), fun h => absurd h (by decide), fun h => absurd h (by decide), fun h => absurd h (by decide), fun h => absurd h (by decide)⟩
theorem mx_m38 : mx_hM ("ConstrainedCoder", 215, 160) := ⟨fun m h => by cases h; exact mx_bg 874 (by decide +kernel) (by decide +kernel), fun h => absurd h (by decide), fun h => absurd h (by decide), fun h => absurd h (by decide), fun h => absurd h (by decide)⟩
theorem mx_m39 : mx_hM ("ConstrainedCoder", 218, 132) := ⟨fun m h => by cases h; exact mx_bg 882 (by decide +kernel) (by decide +kernel), fun h => absurd h (by decide), fun h => absurd h (by decide), fun h => absurd h (by decide), fun h => absurd h (by decide)⟩
theorem mx_m40 : mx_hM ("ConstrainedCoder", 222, 136) := ⟨fun m h => by cases h; exact mx_bg 906 (by decide +kernel) (by decide +kernel), fun h => absurd h (by decide), fun h => absurd h (by decide), fun h => absurd h (by decide), fun h => absurd h (by decide)⟩
theorem mx_m41 : mx_hM ("ConstrainedCoder", 226, 135) := ⟨fun m h => by cases h; exact mx_bg 917 (by decide +kernel) (by decide +kernel), fun h => absurd h (by decide), fun h => absurd h (by decide), fun h => absurd h (by decide), fun h => absurd h (by decide)⟩
theorem mx_m42 : mx_hM ("ConstrainedCoder", 229, 113) := ⟨fun m h => by cases h; exact mx_bg 925 (by decide +kernel) (by decide +kernel), fun h => absurd h (by decide), fun h => absurd h (by decide), fun h => absurd h (by decide), fun h => absurd h (by decide)⟩
theorem mx_m43 : mx_hM ("ConstrainedCoder", 232, 137) := ⟨fun m h => by cases h; exact mx_bg 951 (by decide +kernel) (by decide +kernel), fun h => absurd h (by decide), fun h => absurd h (by decide), fun h => absurd h (by decide), fun h => absurd h (by decide)⟩
theorem mx_m44 : mx_hM ("ConstrainedCoder", 235, 182) := ⟨fun m h => by cases h; exact mx_bg 983 (by decide +kernel) (by decide +kernel), fun h => absurd h (by decide), fun h => absurd h (by decide), fun h => absurd h (by decide), fun h => absurd h (by decide)⟩
theorem mx_m45 : mx_hM ("ConstrainedCoder", 238, 183) := ⟨fun m h => by cases h; exact mx_bg 996 (by decide +kernel) (by decide +kernel), fun h => absurd h (by decide), fun h => absurd h (by decide), fun h => absurd h (by decide), fun h => absurd h (by decide)⟩
theorem mx_m46 : mx_hM ("ConstrainedCoder", 241, 184) := ⟨fun m h => by cases h; exact mx_bg 1008 (by decide +kernel) (by decide +kernel), fun h => absurd h (by decide), fun h => absurd h (by decide), fun h => absurd h (by decide), fun h => absurd h (by decide)⟩
theorem mx_m47 : mx_hM ("ConstrainedCoder", 244, 181) := ⟨fun m h => by cases h; exact mx_bg 1013 (by decide +kernel) (by decide +kernel), fun h => absurd h (by decide), fun h => absurd h (by decide), fun h => absurd h (by decide), fun h => absurd h (by decide)⟩
theorem mx_m48 : mx_hM ("ConstrainedCoder", 247, 185) := ⟨fun m h => by cases h; exact mx_bg 1014 (by decide +kernel) (by decide +kernel), fun h => absurd h (by decide), fun h => absurd h (by decide), fun h => absurd h (by decide), fun h => absurd h (by decide)⟩
theorem mx_m49 : mx_hM ("ConstrainedCoder", 251, 153) := ⟨fun m h => by cases h; exact mx_bg 1023 (by decide +kernel) (by decide +kernel), fun h => absurd h (by decide), fun h => absurd h (by decide), fun h => absurd h (by decide), fun h => absurd h (by decide)⟩
theorem mx_m50 : mx_hM ("ConstrainedCoder", 255, 199) := ⟨fun m h => by cases h; exact mx_bg 1028 (by decide +kernel) (by decide +kernel), fun h => absurd h (by decide), fun h => absurd h (by decide), fun h => absurd h (by decide), fun h => absurd h (by decide)⟩
theorem mx_m51 : mx_hM ("ConstrainedCoderModel", 89, 45) := ⟨fun m h => by cases h; exact mx_bg 1174 (by decide +kernel) (by decide +kernel), fun h => absurd h (by decide), fun h => absurd h (by decide), fun h => absurd h (by decide), fun h => absurd h (by decide)⟩
theorem mx_m52 : mx_hM ("ConstrainedCoderModel", 99, 49) := ⟨fun m h => by cases h; exact mx_bg 1162 (by decide +kernel) (by decide +kernel), fun h => absurd h (by decide), fun h => absurd h (by decide), fun h => absurd h (by decide), fun h => absurd h (by decide)⟩
theorem mx_m53 : mx_hM ("ConstrainedCoderModel", 103, 48) := ⟨fun m h => by cases h; exact mx_bg 1166 (by decide +kernel) (by decide +kernel), fun h => absurd h (by decide), fun h => absurd h (by decide), fun h => absurd h (by decide), fun h => absurd h (by decide)⟩
theorem mx_m54 : mx_hM ("ConstrainedCoderModel", 107, 46) := ⟨fun m h => by cases h; exact mx_bg 1189 (by decide +kernel) (by decide +kernel), fun h => absurd h (by decide), fun h => absurd h (by decide), fun h => absurd h (by decide), fun h => absurd h (by decide)⟩
theorem mx_m55 : mx_hM ("ConstrainedCoderModel", 111, 47) := ⟨fun m h => by cases h; exact mx_bg 1197 (by decide +kernel) (by decide +kernel), fun h => absurd h (by decide), fun h => absurd h (by decide), fun h => absurd h (by decide), fun h => absurd h (by decide)⟩
theorem mx_m56 : mx_hM ("ConstrainedCoderModel", 122, 63) := ⟨fun m h => by cases h; exact mx_bg 1230 (by decide +kernel) (by decide +kernel), fun h => absurd h (by decide), fun h => absurd h (by decide), fun h => absurd h (by decide), fun h => absurd h (by decide)⟩
theorem mx_m57 : mx_hM ("ConstrainedCoderModel", 126, 64) := ⟨fun m h => by cases h; exact mx_bg 1238 (by decide +kernel) (by decide +kernel), fun h => absurd h (by decide), fun h => absurd h (by decide), fun h => absurd h (by decide), fun h => absurd h (by decide)⟩
theorem mx_m58 : mx_hM ("ConstrainedCoderModel", 130, 66) := ⟨fun m h => by cases h; exact mx_bg 1246 (by decide +kernel) (by decide +kernel), fun h => absurd h (by decide), fun h => absurd h (by decide), fun h => absurd h (by decide), fun h => absurd h (by decide)⟩
theorem mx_m59 : mx_hM ("ConstrainedCoderModel", 137, 1004) := ⟨fun m h => absurd h (by intro q; cases q), fun h => absurd h (by decide), fun h => absurd h (by decide), fun h => absurd h (by decide), fun h => absurd h (by decide)⟩
theorem mx_m60 : mx_hM ("ConstrainedCoderModel", 143, 1005) := ⟨fun m h => absurd h (by intro q; cases q), fun h => absurd h (by decide), fun h => absurd h (by decide), fun h => absurd h (by decide), fun h => absurd h (by decide)⟩
theorem mx_m61 : mx_hM ("ConstrainedCoderModel", 151, 70) := ⟨fun m h => by cases h; exact mx_bg 1264 (by decide +kernel) (by decide +kernel), fun h => absurd h (by decide), fun h => absurd h (by decide), fun h => absurd h (by decide), fun h => absurd h (by decide)⟩
theorem mx_m62 : mx_hM ("ConstrainedCoderModel", 155, 50) := ⟨fun m h => by cases h; exact mx_bg 1270 (by decide +kernel) (by decide +kernel), fun h => absurd h (by decide), fun h => absurd h (by decide), fun h => absurd h (by decide), fun h => absurd h (by decide)⟩
theorem mx_m63 : mx_hM ("ConstrainedCoderModel", 158, 51) := ⟨fun m h => by cases h; exact mx_bg 1271 (by decide +kernel) (by decide +kernel), fun h => absurd h (by decide), fun h => absurd h (by decide), fun h => absurd h (by decide), fun h => absurd h (by decide)⟩
theorem mx_m64 : mx_hM ("ConstrainedCoderModel", 164, 76) := ⟨fun m h => by cases h; exact mx_bg 1292 (by decide +kernel) (by decide +kernel), fun h => absurd h (by decide), fun h => absurd h (by decide), fun h => absurd h (by decide), fun h => absurd h (by decide)⟩
theorem mx_m65 : mx_hM ("ConstrainedCoderModel", 167, 77) := ⟨fun m h => by cases h; exact mx_bg 1296 (by decide +kernel) (by decide +kernel), fun h => absurd h (by decide), fun h => absurd h (by decide), fun h => absurd h (by decide), fun h => absurd h (by decide)⟩
theorem mx_m66 : mx_hM ("ConstrainedCoderModel", 170, 79) := ⟨fun m h => by cases h; exact mx_bg 1304 (by decide +kernel) (by decide +kernel), fun h => absurd h (by decide), fun h => absurd h (by decide), fun h => absurd h (by decide), fun h => absurd h (by decide)⟩
theorem mx_m67 : mx_hM ("ConstrainedCoderModel", 173, 83) := ⟨fun m h => by cases h; exact mx_bg 1324 (by decide +kernel) (by decide +kernel), fun h => absurd h (by decide), fun h => absurd h (by decide), fun h => absurd h (by decide), fun h => absurd h (by decide)⟩
theorem mx_m68 : mx_hM ("ConstrainedCoderModel", 177, 82) := ⟨fun m h => by cases h; exact mx_bg 1328 (by decide +kernel) (by decide +kernel), fun h => absurd h (by decide), fun h => absurd h (by decide), fun h => absurd h (by decide), fun h => absurd h (by decide)⟩
theorem mx_m69 : mx_hM ("ConstrainedCoderModel", 180, 86) := ⟨fun m h => by cases h; exact mx_bg 1316 (by decide +kernel) (by decide +kernel), fun h => absurd h (by decide), fun h => absurd h (by decide), fun h => absurd h (by decide), fun h => absurd h (by decide)⟩
theorem mx_m70 : mx_hM ("ConstrainedCoderModel", 183, 84) := ⟨fun m h => by cases h; exact mx_bg 1320 (by decide +kernel) (by decide +kernel), fun h => absurd h (by decide), fun h => absurd h (by decide), fun h => absurd h (by decide), fun h => absurd h (by decide)⟩
theorem mx_m71 : mx_hM ("ConstrainedCoderModel", 187, 85) := ⟨fun m h => by cases h; exact mx_bg 1331 (by decide +kernel) (by decide +kernel), fun h => absurd h (by decide), fun h => absurd h (by decide), fun h => absurd h (by decide), fun h => absurd h (by decide)⟩
theorem mx_m72 : mx_hM ("ConstrainedCoderModel", 191, 88) := ⟨fun m h => by cases h; exact mx_bg 1339 (by decide +kernel) (by decide +kernel), fun h => absurd h (by decide), fun h => absurd h (by decide), fun h => absurd h (by decide), fun h => absurd h (by decide)⟩
theorem mx_m73 : mx_hM ("ConstrainedCoderModel", 194, 72) := ⟨fun m h => by cases h; exact mx_bg 1343 (by decide +kernel) (by decide +kernel), fun h => absurd h (by decide), fun h => absurd h (by decide), fun h => absurd h (by decide), fun h => absurd h (by decide)⟩
theorem mx_m74 : mx_hM ("ConstrainedCoderModel", 203, 78) := ⟨fun m h => by cases h; exact mx_bg 1351 (by decide +kernel) (by decide +kernel), fun h => absurd h (by decide), fun h => absurd h (by decide), fun h => absurd h (by decide), fun h => absurd h (by decide)⟩
theorem mx_m75 : mx_hM ("ConstrainedCoderModel", 208, 209) := ⟨fun m h => by cases h; exact mx_bg 1357 (by decide +kernel) (by decide +kernel), fun h => absurd h (by decide), fun h => absurd h (by decide), fun h => absurd h (by decide), fun h => absurd h (by decide)⟩
theorem mx_m76 : mx_hM ("ConstrainedCoderModel", 214, 92) := ⟨fun m h => by cases h; exact mx_bg 1371 (by decide +kernel) (by decide +kernel), fun h => absurd h (by decide), fun h => absurd h (by decide), fun h => absurd h (by decide), fun h => absurd h (by decide)⟩
theorem mx_m77 : mx_hM ("ConstrainedCoderModel", 217, 95) := ⟨fun m h => by cases h; exact mx_bg 1383 (by decide +kernel) (by decide +kernel), fun h => absurd h (by decide), fun h => absurd h (by decide), fun h => absurd h (by decide), fun h => absurd h (by decide)⟩
theorem mx_m78 : mx_hM ("ConstrainedCoderModel", 226, 98) := ⟨fun m h => by cases h; exact mx_bg 1395 (by decide +kernel) (by decide +kernel), fun h => absurd h (by decide), fun h => absurd h (by decide), fun h => absurd h (by decide), fun h => absurd h (by decide)⟩
theorem mx_m79 : mx_hM ("ConstrainedCoderModel", 229, 101) := ⟨fun m h => by cases h; exact mx_bg 1407 (by decide +kernel) (by decide +kernel), fun h => absurd h (by decide), fun h => absurd h (by decide), fun h => absurd h (by decide), fun h => absurd h (by decide)⟩
theorem mx_m80 : mx_hM ("ConstrainedCoderModel", 232, 104) := ⟨fun m h => by cases h; exact mx_bg 1415 (by decide +kernel) (by decide +kernel), fun h => absurd h (by decide), fun h => absurd h (by decide), fun h => absurd h (by decide), fun h => absurd h (by decide)⟩
theorem mx_m81 : mx_hM ("ConstrainedCoderModel", 235, 105) := ⟨fun m h => by cases h; exact mx_bg 1423 (by decide +kernel) (by decide +kernel), fun h => absurd h (by decide), fun h => absurd h (by decide), fun h => absurd h (by decide), fun h => absurd h (by decide)⟩
theorem mx_m82 : mx_hM ("ConstrainedCoderModel", 250, 110) := ⟨fun m h => by cases h; exact mx_bg 1442 (by decide +kernel) (by decide +kernel), fun h => absurd h (by decide), fun h => absurd h (by decide), fun h => absurd h (by decide), fun h => absurd h (by decide)⟩
theorem mx_m83 : mx_hM ("ConstrainedCoder$AnticipationFinder", 20, 213) := ⟨fun m h => by cases h; exact mx_bg 929 (by decide +kernel) (by decide +kernel), fun h => absurd h (by decide), fun h => absurd h (by decide), fun h => absurd h (by decide), fun h => absurd h (by decide)⟩
theorem mx_m84 : mx_hM ("ConstrainedCoder$AnticipationFinder", 26, 114) := ⟨fun m h => by cases h; exact mx_bg 930 (by decide +kernel) (by decide +kernel), fun h => absurd h (by decide), fun h => absurd h (by decide), fun h => absurd h (by decide), fun h => absurd h (by decide)⟩
theorem mx_m85 : mx_hM ("ConstrainedCoder$AnticipationFinder", 30, 115) := ⟨fun m h => by cases h; exact mx_bg 942 (by decide +kernel) (by decide +kernel), fun h => absurd h (by decide), fun h => absurd h (by decide), fun h => absurd h (by decide), fun h => absurd h (by decide)⟩
theorem mx_m86 : mx_hM ("ConstrainedCoder$AnticipationFinder", 34, 143) := ⟨fun m h => by cases h; exact mx_bg 934 (by decide +kernel) (by decide +kernel), fun h => absurd h (by decide), fun h => absurd h (by decide), fun h => absurd h (by decide), fun h => absurd h (by decide)⟩
theorem mx_m87 : mx_hM ("ConstrainedCoder$AnticipationFinder", 38, 147) := ⟨fun m h => by cases h; exact mx_bg 935 (by decide +kernel) (by decide +kernel), fun h => absurd h (by decide), fun h => absurd h (by decide), fun h => absurd h (by decide), fun h => absurd h (by decide)⟩
theorem mx_m88 : mx_hM ("ConstrainedCoder$AnticipationFinder", 42, 116) := ⟨fun m h => by cases h; exact mx_bg 936 (by decide +kernel) (by decide +kernel), fun h => absurd h (by decide), fun h => absurd h (by decide), fun h => absurd h (by decide), fun h => absurd h (by decide)⟩
theorem mx_m89 : mx_hM ("ConstrainedCoder$AnticipationFinder", 46, 1002) := ⟨fun m h => absurd h (by intro q; cases q), fun _ => mx_bg 946 (by decide +kernel) (by decide +kernel), fun h => absurd h (by decide), fun h => absurd h (by decide), fun h => absurd h (by decide)⟩
theorem mx_m90 : mx_hM ("ConstrainedCoder$AnticipationFinder", 52, 148) := ⟨fun m h => by cases h; exact mx_bg 940 (by decide +kernel) (by decide +kernel), fun h => absurd h (by decide), fun h => absurd h (by decide), fun h => absurd h (by decide), fun h => absurd h (by decide)⟩
theorem mx_m91 : mx_hM ("ConstrainedCoder$AnticipationFinder", 55, 149) := ⟨fun m h => by cases h; exact mx_bg 941 (by decide +kernel) (by decide +kernel), fun h => absurd h (by decide), fun h => absurd h (by decide), fun h => absurd h (by decide), fun h => absurd h (by decide)⟩
theorem mx_m92 : mx_hM ("ConstrainedCoder$ConstraintText", 19, 119) := ⟨fun m h => by cases h; exact mx_bg 553 (by decide +kernel) (by decide +kernel), fun h => absurd h (by decide), fun h => absurd h (by decide), fun h => absurd h (by decide), fun h => absurd h (by decide)⟩
theorem mx_m93 : mx_hM ("ConstrainedCoder$ConstraintText", 25, 120) := ⟨fun m h => by cases h; exact mx_bg 558 (by decide +kernel) (by decide +kernel), fun h => absurd h (by decide), fun h => absurd h (by decide), fun h => absurd h (by decide), fun h => absurd h (by decide)⟩
theorem mx_m94 : mx_hM ("ConstrainedCoder$ConstraintText", 31, 1004) := ⟨fun m h => absurd h (by intro q; cases q), fun h => absurd h (by decide), fun h => absurd h (by decide), fun h => absurd h (by decide), fun h => absurd h (by decide)⟩
theorem mx_m95 : mx_hM ("ConstrainedCoder$ConstraintText", 36, 122) := ⟨fun m h => by cases h; exact mx_bg 615 (by decide +kernel) (by decide +kernel), fun h => absurd h (by decide), fun h => absurd h (by decide), fun h => absurd h (by decide), fun h => absurd h (by decide)⟩
theorem mx_m96 : mx_hM ("ConstrainedCoder$ConstraintText", 40, 151) := ⟨fun m h => by cases h; exact mx_bg 619 (by decide +kernel) (by decide +kernel), fun h => absurd h (by decide), fun h => absurd h (by decide), fun h => absurd h (by decide), fun h => absurd h (by decide)⟩
theorem mx_m97 : mx_hM ("ConstrainedCoder$ConstraintText", 46, 152) := ⟨fun m h => by cases h; exact mx_bg 620 (by decide +kernel) (by decide +kernel), fun h => absurd h (by decide), fun h => absurd h (by decide), fun h => absurd h (by decide), fun h => absurd h (by decide)⟩
theorem mx_m98 : mx_hM ("ConstrainedCoder$ConstraintText", 49, 1006) := ⟨fun m h => absurd h (by intro q; cases q), fun h => absurd h (by decide), fun h => absurd h (by decide), fun _ => mx_bg 621 (by decide +kernel) (by decide +kernel), fun h => absurd h (by decide)⟩
theorem mx_m99 : mx_hM ("ConstrainedCoder$ConstraintText", 54, 1007) := ⟨fun m h => absurd h (by intro q; cases q), fun h => absurd h (by decide), fun h => absurd h (by decide), fun h => absurd h (by decide), fun _ => mx_bg 572 (by decide +kernel) (by decide +kernel)⟩
theorem mx_m100 : mx_hM ("ConstrainedCoder$ConstraintText", 57, 1005) := ⟨fun m h => absurd h (by intro q; cases q), fun h => absurd h (by decide), fun h => absurd h (by decide), fun h => absurd h (by decide), fun h => absurd h (by decide)⟩
theorem mx_m101 : mx_hM ("ConstrainedCoder$ConstraintText", 61, 121) := ⟨fun m h => by cases h; exact mx_bg 611 (by decide +kernel) (by decide +kernel), fun h => absurd h (by decide), fun h => absurd h (by decide), fun h => absurd h (by decide), fun h => absurd h (by decide)⟩
theorem mx_m102 : mx_hM ("ConstrainedCoder$EigenvectorFinder", 27, 213) := ⟨fun m h => by cases h; exact mx_bg 356 (by decide +kernel) (by decide +kernel), fun h => absurd h (by decide), fun h => absurd h (by decide), fun h => absurd h (by decide), fun h => absurd h (by decide)⟩
theorem mx_m103 : mx_hM ("ConstrainedCoder$EigenvectorFinder", 33, 127) := ⟨fun m h => by cases h; exact mx_bg 838 (by decide +kernel) (by decide +kernel), fun h => absurd h (by decide), fun h => absurd h (by decide), fun h => absurd h (by decide), fun h => absurd h (by decide)⟩
theorem mx_m104 : mx_hM ("ConstrainedCoder$EigenvectorFinder", 37, 128) := ⟨fun m h => by cases h; exact mx_bg 842 (by decide +kernel) (by decide +kernel), fun h => absurd h (by decide), fun h => absurd h (by decide), fun h => absurd h (by decide), fun h => absurd h (by decide)⟩
theorem mx_m105 : mx_hM ("ConstrainedCoder$EigenvectorFinder", 41, 142) := ⟨fun m h => by cases h; exact mx_bg 846 (by decide +kernel) (by decide +kernel), fun h => absurd h (by decide), fun h => absurd h (by decide), fun h => absurd h (by decide), fun h => absurd h (by decide)⟩
theorem mx_m106 : mx_hM ("ConstrainedCoder$EigenvectorFinder", 45, 129) := ⟨fun m h => by cases h; exact mx_bg 847 (by decide +kernel) (by decide +kernel), fun h => absurd h (by decide), fun h => absurd h (by decide), fun h => absurd h (by decide), fun h => absurd h (by decide)⟩
theorem mx_m107 : mx_hM ("ConstrainedCoder$EigenvectorFinder", 49, 130) := ⟨fun m h => by cases h; exact mx_bg 851 (by decide +kernel) (by decide +kernel), fun h => absurd h (by decide), fun h => absurd h (by decide), fun h => absurd h (by decide), fun h => absurd h (by decide)⟩
theorem mx_m108 : mx_hM ("ConstrainedCoder$EigenvectorFinder", 52, 143) := ⟨fun m h => by cases h; exact mx_bg 855 (by decide +kernel) (by decide +kernel), fun h => absurd h (by decide), fun h => absurd h (by decide), fun h => absurd h (by decide), fun h => absurd h (by decide)⟩
theorem mx_m109 : mx_hM ("ConstrainedCoder$EigenvectorFinder", 55, 147) := ⟨fun m h => by cases h; exact mx_bg 856 (by decide +kernel) (by decide +kernel), fun h => absurd h (by decide), fun h => absurd h (by decide), fun h => absurd h (by decide), fun h => absurd h (by decide)⟩
theorem mx_m110 : mx_hM ("ConstrainedCoder$EigenvectorFinder", 59, 149) := ⟨fun m h => by cases h; exact mx_bg 857 (by decide +kernel) (by decide +kernel), fun h => absurd h (by decide), fun h => absurd h (by decide), fun h => absurd h (by decide), fun h => absurd h (by decide)⟩
theorem mx_m111 : mx_hM ("ConstrainedCoder$Encoder", 37, 145) := ⟨fun m h => by cases h; exact mx_bg 886 (by decide +kernel) (by decide +kernel), fun h => absurd h (by decide), fun h => absurd h (by decide), fun h => absurd h (by decide), fun h => absurd h (by decide)⟩
theorem mx_m112 : mx_hM ("ConstrainedCoder$Encoder", 41, 160) := ⟨fun m h => by cases h; exact mx_bg 887 (by decide +kernel) (by decide +kernel), fun h => absurd h (by decide), fun h => absurd h (by decide), fun h => absurd h (by decide), fun h => absurd h (by decide)⟩
theorem mx_m113 : mx_hM ("ConstrainedCoder$Encoder", 44, 133) := ⟨fun m h => by cases h; exact mx_bg 888 (by decide +kernel) (by decide +kernel), fun h => absurd h (by decide), fun h => absurd h (by decide), fun h => absurd h (by decide), fun h => absurd h (by decide)⟩
theorem mx_m114 : mx_hM ("ConstrainedCoder$Encoder", 48, 158) := ⟨fun m h => by cases h; exact mx_bg 901 (by decide +kernel) (by decide +kernel), fun h => absurd h (by decide), fun h => absurd h (by decide), fun h => absurd h (by decide), fun h => absurd h (by decide)⟩
theorem mx_m115 : mx_hM ("ConstrainedCoder$Encoder", 52, 213) := ⟨fun m h => by cases h; exact mx_bg 892 (by decide +kernel) (by decide +kernel), fun h => absurd h (by decide), fun h => absurd h (by decide), fun h => absurd h (by decide), fun h => absurd h (by decide)⟩
theorem mx_m116 : mx_hM ("ConstrainedCoder$Encoder", 58, 144) := ⟨fun m h => by cases h; exact mx_bg 893 (by decide +kernel) (by decide +kernel), fun h => absurd h (by decide), fun h => absurd h (by decide), fun h => absurd h (by decide), fun h => absurd h (by decide)⟩
theorem mx_m117 : mx_hM ("ConstrainedCoder$Encoder", 62, 143) := ⟨fun m h => by cases h; exact mx_bg 894 (by decide +kernel) (by decide +kernel), fun h => absurd h (by decide), fun h => absurd h (by decide), fun h => absurd h (by decide), fun h => absurd h (by decide)⟩
theorem mx_m118 : mx_hM ("ConstrainedCoder$Encoder", 65, 148) := ⟨fun m h => by cases h; exact mx_bg 895 (by decide +kernel) (by decide +kernel), fun h => absurd h (by decide), fun h => absurd h (by decide), fun h => absurd h (by decide), fun h => absurd h (by decide)⟩
theorem mx_m119 : mx_hM ("ConstrainedCoder$Encoder", 68, 147) := ⟨fun m h => by cases h; exact mx_bg 896 (by decide +kernel) (by decide +kernel), fun h => absurd h (by decide), fun h => absurd h (by decide), fun h => absurd h (by decide), fun h => absurd h (by decide)⟩
theorem mx_m120 : mx_hM ("ConstrainedCoder$Encoder", 71, 134) := ⟨fun m h => by cases h; exact mx_bg 897 (by decide +kernel) (by decide +kernel), fun h => absurd h (by decide), fun h => absurd h (by decide), fun h => absurd h (by decide), fun h => absurd h (by decide)⟩
theorem mx_m121 : mx_hM ("ConstrainedCoder$Encoder", 75, 188) := ⟨fun m h => by cases h; exact mx_bg 910 (by decide +kernel) (by decide +kernel), fun h => absurd h (by decide), fun h => absurd h (by decide), fun h => absurd h (by decide), fun h => absurd h (by decide)⟩
theorem mx_m122 : mx_hM ("ConstrainedCoder$Encoder", 80, 192) := ⟨fun m h => by cases h; exact mx_bg 911 (by decide +kernel) (by decide +kernel), fun h => absurd h (by decide), fun h => absurd h (by decide), fun h => absurd h (by decide), fun h => absurd h (by decide)⟩
theorem mx_m123 : mx_hM ("ConstrainedCoder$Encoder", 83, 149) := ⟨fun m h => by cases h; exact mx_bg 912 (by decide +kernel) (by decide +kernel), fun h => absurd h (by decide), fun h => absurd h (by decide), fun h => absurd h (by decide), fun h => absurd h (by decide)⟩
theorem mx_m124 : mx_hM ("ConstrainedCoder$Encoder", 86, 193) := ⟨fun m h => by cases h; exact mx_bg 955 (by decide +kernel) (by decide +kernel), fun h => absurd h (by decide), fun h => absurd h (by decide), fun h => absurd h (by decide), fun h => absurd h (by decide)⟩
theorem mx_m125 : mx_hM ("ConstrainedCoder$Encoder", 89, 194) := ⟨fun m h => by cases h; exact mx_bg 956 (by decide +kernel) (by decide +kernel), fun h => absurd h (by decide), fun h => absurd h (by decide), fun h => absurd h (by decide), fun h => absurd h (by decide)⟩
theorem mx_m126 : mx_hM ("ConstrainedCoder$Encoder", 92, 195) := ⟨fun m h => by cases h; exact mx_bg 961 (by decide +kernel) (by decide +kernel), fun h => absurd h (by decide), fun h => absurd h (by decide), fun h => absurd h (by decide), fun h => absurd h (by decide)⟩
theorem mx_m127 : mx_hM ("ConstrainedCoder$Encoder", 96, 138) := ⟨fun m h => by cases h; exact mx_bg 962 (by decide +kernel) (by decide +kernel), fun h => absurd h (by decide), fun h => absurd h (by decide), fun h => absurd h (by decide), fun h => absurd h (by decide)⟩
theorem mx_m128 : mx_hM ("ConstrainedCoder$Encoder", 100, 142) := ⟨fun m h => by cases h; exact mx_bg 970 (by decide +kernel) (by decide +kernel), fun h => absurd h (by decide), fun h => absurd h (by decide), fun h => absurd h (by decide), fun h => absurd h (by decide)⟩
theorem mx_m129 : mx_hM ("ConstrainedCoder$Encoder", 103, 139) := ⟨fun m h => by cases h; exact mx_bg 971 (by decide +kernel) (by decide +kernel), fun h => absurd h (by decide), fun h => absurd h (by decide), fun h => absurd h (by decide), fun h => absurd h (by decide)⟩
theorem mx_m130 : mx_hM ("ConstrainedCoder$Encoder", 106, 140) := ⟨fun m h => by cases h; exact mx_bg 975 (by decide +kernel) (by decide +kernel), fun h => absurd h (by decide), fun h => absurd h (by decide), fun h => absurd h (by decide), fun h => absurd h (by decide)⟩
theorem mx_m131 : mx_hM ("ConstrainedCoder$Encoder", 110, 141) := ⟨fun m h => by cases h; exact mx_bg 966 (by decide +kernel) (by decide +kernel), fun h => absurd h (by decide), fun h => absurd h (by decide), fun h => absurd h (by decide), fun h => absurd h (by decide)⟩
theorem mx_m132 : mx_hM ("ConstrainedCoder$Graph", 34, 146) := ⟨fun m h => by cases h; exact mx_bg 393 (by decide +kernel) (by decide +kernel), fun h => absurd h (by decide), fun h => absurd h (by decide), fun h => absurd h (by decide), fun h => absurd h (by decide)⟩
theorem mx_m133 : mx_hM ("ConstrainedCoder$Graph", 38, 150) := ⟨fun m h => by cases h; exact mx_bg 332 (by decide +kernel) (by decide +kernel), fun h => absurd h (by decide), fun h => absurd h (by decide), fun h => absurd h (by decide), fun h => absurd h (by decide)⟩
theorem mx_m134 : mx_hM ("ConstrainedCoder$Graph", 42, 156) := ⟨fun m h => by cases h; exact mx_bg 336 (by decide +kernel) (by decide +kernel), fun h => absurd h (by decide), fun h => absurd h (by decide), fun h => absurd h (by decide), fun h => absurd h (by decide)⟩
theorem mx_m135 : mx_hM ("ConstrainedCoder$Graph", 46, 1002) := ⟨fun m h => absurd h (by intro q; cases q), fun _ => mx_bg 1027 (by decide +kernel) (by decide +kernel), fun h => absurd h (by decide), fun h => absurd h (by decide), fun h => absurd h (by decide)⟩
theorem mx_m136 : mx_hM ("ConstrainedCoder$Graph", 52, 145) := ⟨fun m h => by cases h; exact mx_bg 340 (by decide +kernel) (by decide +kernel), fun h => absurd h (by decide), fun h => absurd h (by decide), fun h => absurd h (by decide), fun h => absurd h (by decide)⟩
theorem mx_m137 : mx_hM ("ConstrainedCoder$Graph", 55, 158) := ⟨fun m h => by cases h; exact mx_bg 497 (by decide +kernel) (by decide +kernel), fun h => absurd h (by decide), fun h => absurd h (by decide), fun h => absurd h (by decide), fun h => absurd h (by decide)⟩
theorem mx_m138 : mx_hM ("ConstrainedCoder$Graph", 58, 1007) := ⟨fun m h => absurd h (by intro q; cases q), fun h => absurd h (by decide), fun h => absurd h (by decide), fun h => absurd h (by decide), fun _ => mx_bg 501 (by decide +kernel) (by decide +kernel)⟩
theorem mx_m139 : mx_hM ("ConstrainedCoder$Graph", 64, 159) := ⟨fun m h => by cases h; exact mx_bg 504 (by decide +kernel) (by decide +kernel), fun h => absurd h (by decide), fun h => absurd h (by decide), fun h => absurd h (by decide), fun h => absurd h (by decide)⟩
theorem mx_m140 : mx_hM ("ConstrainedCoder$Graph", 67, 155) := ⟨fun m h => by cases h; exact mx_bg 508 (by decide +kernel) (by decide +kernel), fun h => absurd h (by decide), fun h => absurd h (by decide), fun h => absurd h (by decide), fun h => absurd h (by decide)⟩
theorem mx_m141 : mx_hM ("ConstrainedCoder$Graph", 71, 162) := ⟨fun m h => by cases h; exact mx_bg 509 (by decide +kernel) (by decide +kernel), fun h => absurd h (by decide), fun h => absurd h (by decide), fun h => absurd h (by decide), fun h => absurd h (by decide)⟩
theorem mx_m142 : mx_hM ("ConstrainedCoder$Graph", 75, 163) := ⟨fun m h => by cases h; exact mx_bg 513 (by decide +kernel) (by decide +kernel), fun h => absurd h (by decide), fun h => absurd h (by decide), fun h => absurd h (by decide), fun h => absurd h (by decide)⟩
theorem mx_m143 : mx_hM ("ConstrainedCoder$Graph", 79, 166) := ⟨fun m h => by cases h; exact mx_bg 533 (by decide +kernel) (by decide +kernel), fun h => absurd h (by decide), fun h => absurd h (by decide), fun h => absurd h (by decide), fun h => absurd h (by decide)⟩
theorem mx_m144 : mx_hM ("ConstrainedCoder$Graph", 82, 193) := ⟨fun m h => by cases h; exact mx_bg 673 (by decide +kernel) (by decide +kernel), fun h => absurd h (by decide), fun h => absurd h (by decide), fun h => absurd h (by decide), fun h => absurd h (by decide)⟩
theorem mx_m145 : mx_hM ("ConstrainedCoder$Graph", 87, 195) := ⟨fun m h => by cases h; exact mx_bg 677 (by decide +kernel) (by decide +kernel), fun h => absurd h (by decide), fun h => absurd h (by decide), fun h => absurd h (by decide), fun h => absurd h (by decide)⟩
theorem mx_m146 : mx_hM ("ConstrainedCoder$Graph", 90, 169) := ⟨fun m h => by cases h; exact mx_bg 681 (by decide +kernel) (by decide +kernel), fun h => absurd h (by decide), fun h => absurd h (by decide), fun h => absurd h (by decide), fun h => absurd h (by decide)⟩
theorem mx_m147 : mx_hM ("ConstrainedCoder$Graph", 93, 186) := ⟨fun m h => by cases h; exact mx_bg 685 (by decide +kernel) (by decide +kernel), fun h => absurd h (by decide), fun h => absurd h (by decide), fun h => absurd h (by decide), fun h => absurd h (by decide)⟩
theorem mx_m148 : mx_hM ("ConstrainedCoder$GrowthEstimator", 22, 212) := ⟨fun m h => by cases h; exact mx_bg 800 (by decide +kernel) (by decide +kernel), fun h => absurd h (by decide), fun h => absurd h (by decide), fun h => absurd h (by decide), fun h => absurd h (by decide)⟩
theorem mx_m149 : mx_hM ("ConstrainedCoder$GrowthEstimator", 28, 171) := ⟨fun m h => by cases h; exact mx_bg 803 (by decide +kernel) (by decide +kernel), fun h => absurd h (by decide), fun h => absurd h (by decide), fun h => absurd h (by decide), fun h => absurd h (by decide)⟩
theorem mx_m150 : mx_hM ("ConstrainedCoder$GrowthEstimator", 32, 172) := ⟨fun m h => by cases h; exact mx_bg 810 (by decide +kernel) (by decide +kernel), fun h => absurd h (by decide), fun h => absurd h (by decide), fun h => absurd h (by decide), fun h => absurd h (by decide)⟩
theorem mx_m151 : mx_hM ("ConstrainedCoder$GrowthEstimator", 36, 173) := ⟨fun m h => by cases h; exact mx_bg 815 (by decide +kernel) (by decide +kernel), fun h => absurd h (by decide), fun h => absurd h (by decide), fun h => absurd h (by decide), fun h => absurd h (by decide)⟩
theorem mx_m152 : mx_hM ("ConstrainedCoder$GrowthEstimator", 40, 174) := ⟨fun m h => by cases h; exact mx_bg 819 (by decide +kernel) (by decide +kernel), fun h => absurd h (by decide), fun h => absurd h (by decide), fun h => absurd h (by decide), fun h => absurd h (by decide)⟩
theorem mx_m153 : mx_hM ("ConstrainedCoder$GrowthEstimator", 44, 143) := ⟨fun m h => by cases h; exact mx_bg 807 (by decide +kernel) (by decide +kernel), fun h => absurd h (by decide), fun h => absurd h (by decide), fun h => absurd h (by decide), fun h => absurd h (by decide)⟩
theorem mx_m154 : mx_hM ("ConstrainedCoder$GrowthEstimator", 48, 147) := ⟨fun m h => by cases h; exact mx_bg 808 (by decide +kernel) (by decide +kernel), fun h => absurd h (by decide), fun h => absurd h (by decide), fun h => absurd h (by decide), fun h => absurd h (by decide)⟩
theorem mx_m155 : mx_hM ("ConstrainedCoder$GrowthEstimator", 52, 149) := ⟨fun m h => by cases h; exact mx_bg 809 (by decide +kernel) (by decide +kernel), fun h => absurd h (by decide), fun h => absurd h (by decide), fun h => absurd h (by decide), fun h => absurd h (by decide)⟩
theorem mx_m156 : mx_hM ("ConstrainedCoder$GrowthEstimator", 55, 142) := ⟨fun m h => by cases h; exact mx_bg 814 (by decide +kernel) (by decide +kernel), fun h => absurd h (by decide), fun h => absurd h (by decide), fun h => absurd h (by decide), fun h => absurd h (by decide)⟩
theorem mx_m157 : mx_hM ("ConstrainedCoder$PowerBuilder", 44, 144) := ⟨fun m h => by cases h; exact mx_bg 454 (by decide +kernel) (by decide +kernel), fun h => absurd h (by decide), fun h => absurd h (by decide), fun h => absurd h (by decide), fun h => absurd h (by decide)⟩
theorem mx_m158 : mx_hM ("ConstrainedCoder$PowerBuilder", 48, 176) := ⟨fun m h => by cases h; exact mx_bg 455 (by decide +kernel) (by decide +kernel), fun h => absurd h (by decide), fun h => absurd h (by decide), fun h => absurd h (by decide), fun h => absurd h (by decide)⟩
theorem mx_m159 : mx_hM ("ConstrainedCoder$PowerBuilder", 52, 177) := ⟨fun m h => by cases h; exact mx_bg 463 (by decide +kernel) (by decide +kernel), fun h => absurd h (by decide), fun h => absurd h (by decide), fun h => absurd h (by decide), fun h => absurd h (by decide)⟩
theorem mx_m160 : mx_hM ("ConstrainedCoder$PowerBuilder", 56, 178) := ⟨fun m h => by cases h; exact mx_bg 468 (by decide +kernel) (by decide +kernel), fun h => absurd h (by decide), fun h => absurd h (by decide), fun h => absurd h (by decide), fun h => absurd h (by decide)⟩
theorem mx_m161 : mx_hM ("ConstrainedCoder$PowerBuilder", 59, 179) := ⟨fun m h => by cases h; exact mx_bg 472 (by decide +kernel) (by decide +kernel), fun h => absurd h (by decide), fun h => absurd h (by decide), fun h => absurd h (by decide), fun h => absurd h (by decide)⟩
theorem mx_m162 : mx_hM ("ConstrainedCoder$PowerBuilder", 62, 154) := ⟨fun m h => by cases h; exact mx_bg 484 (by decide +kernel) (by decide +kernel), fun h => absurd h (by decide), fun h => absurd h (by decide), fun h => absurd h (by decide), fun h => absurd h (by decide)⟩
theorem mx_m163 : mx_hM ("ConstrainedCoder$PowerBuilder", 66, 156) := ⟨fun m h => by cases h; exact mx_bg 488 (by decide +kernel) (by decide +kernel), fun h => absurd h (by decide), fun h => absurd h (by decide), fun h => absurd h (by decide), fun h => absurd h (by decide)⟩
theorem mx_m164 : mx_hM ("ConstrainedCoder$PowerBuilder", 70, 143) := ⟨fun m h => by cases h; exact mx_bg 460 (by decide +kernel) (by decide +kernel), fun h => absurd h (by decide), fun h => absurd h (by decide), fun h => absurd h (by decide), fun h => absurd h (by decide)⟩
theorem mx_m165 : mx_hM ("ConstrainedCoder$PowerBuilder", 73, 213) := ⟨fun m h => by cases h; exact mx_bg 459 (by decide +kernel) (by decide +kernel), fun h => absurd h (by decide), fun h => absurd h (by decide), fun h => absurd h (by decide), fun h => absurd h (by decide)⟩
theorem mx_m166 : mx_hM ("ConstrainedCoder$PowerBuilder", 79, 147) := ⟨fun m h => by cases h; exact mx_bg 461 (by decide +kernel) (by decide +kernel), fun h => absurd h (by decide), fun h => absurd h (by decide), fun h => absurd h (by decide), fun h => absurd h (by decide)⟩
theorem mx_m167 : mx_hM ("ConstrainedCoder$PowerBuilder", 83, 149) := ⟨fun m h => by cases h; exact mx_bg 462 (by decide +kernel) (by decide +kernel), fun h => absurd h (by decide), fun h => absurd h (by decide), fun h => absurd h (by decide), fun h => absurd h (by decide)⟩
theorem mx_m168 : mx_hM ("ConstrainedCoder$PowerBuilder", 86, 142) := ⟨fun m h => by cases h; exact mx_bg 467 (by decide +kernel) (by decide +kernel), fun h => absurd h (by decide), fun h => absurd h (by decide), fun h => absurd h (by decide), fun h => absurd h (by decide)⟩
theorem mx_m169 : mx_hM ("ConstrainedCoder$PowerBuilder", 89, 148) := ⟨fun m h => by cases h; exact mx_bg 476 (by decide +kernel) (by decide +kernel), fun h => absurd h (by decide), fun h => absurd h (by decide), fun h => absurd h (by decide), fun h => absurd h (by decide)⟩
theorem mx_m170 : mx_hM ("ConstrainedCoder$PowerBuilder", 92, 180) := ⟨fun m h => by cases h; exact mx_bg 477 (by decide +kernel) (by decide +kernel), fun h => absurd h (by decide), fun h => absurd h (by decide), fun h => absurd h (by decide), fun h => absurd h (by decide)⟩
theorem mx_m171 : mx_hM ("ConstrainedCoder$PowerBuilder", 96, 1002) := ⟨fun m h => absurd h (by intro q; cases q), fun _ => mx_bg 481 (by decide +kernel) (by decide +kernel), fun h => absurd h (by decide), fun h => absurd h (by decide), fun h => absurd h (by decide)⟩
theorem mx_m172 : mx_hM ("ConstrainedCoder$Slots", 24, 181) := ⟨fun m h => by cases h; exact mx_bg 987 (by decide +kernel) (by decide +kernel), fun h => absurd h (by decide), fun h => absurd h (by decide), fun h => absurd h (by decide), fun h => absurd h (by decide)⟩
theorem mx_m173 : mx_hM ("ConstrainedCoder$Slots", 28, 213) := ⟨fun m h => by cases h; exact mx_bg 991 (by decide +kernel) (by decide +kernel), fun h => absurd h (by decide), fun h => absurd h (by decide), fun h => absurd h (by decide), fun h => absurd h (by decide)⟩
theorem mx_m174 : mx_hM ("ConstrainedCoder$Slots", 34, 184) := ⟨fun m h => by cases h; exact mx_bg 1000 (by decide +kernel) (by decide +kernel), fun h => absurd h (by decide), fun h => absurd h (by decide), fun h => absurd h (by decide), fun h => absurd h (by decide)⟩
theorem mx_m175 : mx_hM ("ConstrainedCoder$Slots", 38, 126) := ⟨fun m h => by cases h; exact mx_bg 1018 (by decide +kernel) (by decide +kernel), fun h => absurd h (by decide), fun h => absurd h (by decide), fun h => absurd h (by decide), fun h => absurd h (by decide)⟩
theorem mx_m176 : mx_hM ("ConstrainedCoder$Word", 19, 187) := ⟨fun m h => by cases h; exact mx_bg 661 (by decide +kernel) (by decide +kernel), fun h => absurd h (by decide), fun h => absurd h (by decide), fun h => absurd h (by decide), fun h => absurd h (by decide)⟩
theorem mx_m177 : mx_hM ("ConstrainedCoder$Word", 23, 188) := ⟨fun m h => by cases h; exact mx_bg 633 (by decide +kernel) (by decide +kernel), fun h => absurd h (by decide), fun h => absurd h (by decide), fun h => absurd h (by decide), fun h => absurd h (by decide)⟩
theorem mx_m178 : mx_hM ("ConstrainedCoder$Word", 26, 191) := ⟨fun m h => by cases h; exact mx_bg 773 (by decide +kernel) (by decide +kernel), fun h => absurd h (by decide), fun h => absurd h (by decide), fun h => absurd h (by decide), fun h => absurd h (by decide)⟩
theorem mx_m179 : mx_hM ("ConstrainedCoder$Word", 30, 193) := ⟨fun m h => by cases h; exact mx_bg 960 (by decide +kernel) (by decide +kernel), fun h => absurd h (by decide), fun h => absurd h (by decide), fun h => absurd h (by decide), fun h => absurd h (by decide)⟩
theorem mx_m180 : mx_hM ("ConstrainedCoder$Word", 33, 196) := ⟨fun m h => by cases h; exact mx_bg 694 (by decide +kernel) (by decide +kernel), fun h => absurd h (by decide), fun h => absurd h (by decide), fun h => absurd h (by decide), fun h => absurd h (by decide)⟩
theorem mx_m181 : mx_hM ("ConstrainedCoder$Word", 37, 197) := ⟨fun m h => by cases h; exact mx_bg 698 (by decide +kernel) (by decide +kernel), fun h => absurd h (by decide), fun h => absurd h (by decide), fun h => absurd h (by decide), fun h => absurd h (by decide)⟩
theorem mx_m182 : mx_hM ("ConstrainedCoder$Word", 40, 1002) := ⟨fun m h => absurd h (by intro q; cases q), fun _ => mx_bg 1032 (by decide +kernel) (by decide +kernel), fun h => absurd h (by decide), fun h => absurd h (by decide), fun h => absurd h (by decide)⟩
theorem mx_m183 : mx_hM ("ConstrainedCoder$WordCounter", 24, 203) := ⟨fun m h => by cases h; exact mx_bg 715 (by decide +kernel) (by decide +kernel), fun h => absurd h (by decide), fun h => absurd h (by decide), fun h => absurd h (by decide), fun h => absurd h (by decide)⟩
theorem mx_m184 : mx_hM ("ConstrainedCoder$WordCounter", 28, 204) := ⟨fun m h => by cases h; exact mx_bg 720 (by decide +kernel) (by decide +kernel), fun h => absurd h (by decide), fun h => absurd h (by decide), fun h => absurd h (by decide), fun h => absurd h (by decide)⟩
theorem mx_m185 : mx_hM ("ConstrainedCoder$WordCounter", 32, 1006) := ⟨fun m h => absurd h (by intro q; cases q), fun h => absurd h (by decide), fun h => absurd h (by decide), fun _ => mx_bg 747 (by decide +kernel) (by decide +kernel), fun h => absurd h (by decide)⟩
theorem mx_m186 : mx_hM ("ConstrainedCoder$WordCounter", 38, 207) := ⟨fun m h => by cases h; exact mx_bg 748 (by decide +kernel) (by decide +kernel), fun h => absurd h (by decide), fun h => absurd h (by decide), fun h => absurd h (by decide), fun h => absurd h (by decide)⟩
theorem mx_m187 : mx_hM ("ConstrainedCoder$WordCounter", 42, 190) := ⟨fun m h => by cases h; exact mx_bg 760 (by decide +kernel) (by decide +kernel), fun h => absurd h (by decide), fun h => absurd h (by decide), fun h => absurd h (by decide), fun h => absurd h (by decide)⟩
theorem mx_m188 : mx_hM ("ConstrainedCoder$WordCounter", 45, 208) := ⟨fun m h => by cases h; exact mx_bg 761 (by decide +kernel) (by decide +kernel), fun h => absurd h (by decide), fun h => absurd h (by decide), fun h => absurd h (by decide), fun h => absurd h (by decide)⟩
theorem mx_m189 : mx_hM ("ConstrainedCoder$WordCounter", 49, 144) := ⟨fun m h => by cases h; exact mx_bg 728 (by decide +kernel) (by decide +kernel), fun h => absurd h (by decide), fun h => absurd h (by decide), fun h => absurd h (by decide), fun h => absurd h (by decide)⟩
theorem mx_m190 : mx_hM ("ConstrainedCoder$WordCounter", 53, 192) := ⟨fun m h => by cases h; exact mx_bg 769 (by decide +kernel) (by decide +kernel), fun h => absurd h (by decide), fun h => absurd h (by decide), fun h => absurd h (by decide), fun h => absurd h (by decide)⟩
theorem mx_m191 : mx_hM ("ConstrainedCoder$WordCounter", 57, 167) := ⟨fun m h => by cases h; exact mx_bg 765 (by decide +kernel) (by decide +kernel), fun h => absurd h (by decide), fun h => absurd h (by decide), fun h => absurd h (by decide), fun h => absurd h (by decide)⟩
theorem mx_m192 : mx_hM ("ConstrainedCoder$WordCounter", 60, 149) := ⟨fun m h => by cases h; exact mx_bg 734 (by decide +kernel) (by decide +kernel), fun h => absurd h (by decide), fun h => absurd h (by decide), fun h => absurd h (by decide), fun h => absurd h (by decide)⟩
theorem mx_m193 : mx_hM ("ConstrainedCoder$WordCounter", 64, 206) := ⟨fun m h => by cases h; exact mx_bg 737 (by decide +kernel) (by decide +kernel), fun h => absurd h (by decide), fun h => absurd h (by decide), fun h => absurd h (by decide), fun h => absurd h (by decide)⟩
theorem mx_m194 : mx_hM ("ConstrainedCoder$WordCounter", 67, 186) := ⟨fun m h => by cases h; exact mx_bg 774 (by decide +kernel) (by decide +kernel), fun h => absurd h (by decide), fun h => absurd h (by decide), fun h => absurd h (by decide), fun h => absurd h (by decide)⟩
theorem mx_m195 : mx_hM ("ConstrainedCoder$WordCounter", 70, 145) := ⟨fun m h => by cases h; exact mx_bg 718 (by decide +kernel) (by decide +kernel), fun h => absurd h (by decide), fun h => absurd h (by decide), fun h => absurd h (by decide), fun h => absurd h (by decide)⟩
theorem mx_m196 : mx_hM ("ConstrainedCoder$WordCounter", 78, 164) := ⟨fun m h => by cases h; exact mx_bg 719 (by decide +kernel) (by decide +kernel), fun h => absurd h (by decide), fun h => absurd h (by decide), fun h => absurd h (by decide), fun h => absurd h (by decide)⟩
theorem mx_m197 : mx_hM ("ConstrainedCoder$WordCounter", 84, 193) := ⟨fun m h => by cases h; exact mx_bg 786 (by decide +kernel) (by decide +kernel), fun h => absurd h (by decide), fun h => absurd h (by decide), fun h => absurd h (by decide), fun h => absurd h (by decide)⟩
theorem mx_m198 : mx_hM ("ConstrainedCoder$WordCounter", 87, 168) := ⟨fun m h => by cases h; exact mx_bg 787 (by decide +kernel) (by decide +kernel), fun h => absurd h (by decide), fun h => absurd h (by decide), fun h => absurd h (by decide), fun h => absurd h (by decide)⟩
theorem mx_m199 : mx_hM ("ConstrainedCoder$WordCounter", 93, 196) := ⟨fun m h => by cases h; exact mx_bg 789 (by decide +kernel) (by decide +kernel), fun h => absurd h (by decide), fun h => absurd h (by decide), fun h => absurd h (by decide), fun h => absurd h (by decide)⟩
theorem mx_m200 : mx_hM ("ConstrainedCoder$WordCounter", 96, 195) := ⟨fun m h => by cases h; exact mx_bg 790 (by decide +kernel) (by decide +kernel), fun h => absurd h (by decide), fun h => absurd h (by decide), fun h => absurd h (by decide), fun h => absurd h (by decide)⟩
theorem mx_m201 : mx_hM ("ConstrainedCoder$WordCounter", 99, 214) := ⟨fun m h => by cases h; exact mx_bg 724 (by decide +kernel) (by decide +kernel), fun h => absurd h (by decide), fun h => absurd h (by decide), fun h => absurd h (by decide), fun h => absurd h (by decide)⟩
theorem mx_m202 : mx_hM ("ConstrainedCoder$WordCounter", 105, 142) := ⟨fun m h => by cases h; exact mx_bg 727 (by decide +kernel) (by decide +kernel), fun h => absurd h (by decide), fun h => absurd h (by decide), fun h => absurd h (by decide), fun h => absurd h (by decide)⟩
theorem mx_m203 : mx_hM ("ConstrainedCoder$WordCounter", 108, 143) := ⟨fun m h => by cases h; exact mx_bg 729 (by decide +kernel) (by decide +kernel), fun h => absurd h (by decide), fun h => absurd h (by decide), fun h => absurd h (by decide), fun h => absurd h (by decide)⟩
theorem mx_m204 : mx_hM ("ConstrainedCoder$WordCounter", 111, 205) := ⟨fun m h => by cases h; exact mx_bg 730 (by decide +kernel) (by decide +kernel), fun h => absurd h (by decide), fun h => absurd h (by decide), fun h => absurd h (by decide), fun h => absurd h (by decide)⟩
theorem mx_m205 : mx_hM ("ConstrainedCoder$WordCounter", 115, 147) := ⟨fun m h => by cases h; exact mx_bg 735 (by decide +kernel) (by decide +kernel), fun h => absurd h (by decide), fun h => absurd h (by decide), fun h => absurd h (by decide), fun h => absurd h (by decide)⟩
theorem mx_m206 : mx_hM ("ConstrainedCoder$WordCounter", 118, 148) := ⟨fun m h => by cases h; exact mx_bg 736 (by decide +kernel) (by decide +kernel), fun h => absurd h (by decide), fun h => absurd h (by decide), fun h => absurd h (by decide), fun h => absurd h (by decide)⟩
theorem mx_m207 : mx_hM ("ConstrainedCoder$WordCounter", 121, 211) := ⟨fun m h => by cases h; exact mx_bg 741 (by decide +kernel) (by decide +kernel), fun h => absurd h (by decide), fun h => absurd h (by decide), fun h => absurd h (by decide), fun h => absurd h (by decide)⟩
theorem mx_m208 : mx_hM ("java/lang/Double", 122, 210) := ⟨fun m h => by cases h; exact mx_bg 1360 (by decide +kernel) (by decide +kernel), fun h => absurd h (by decide), fun h => absurd h (by decide), fun h => absurd h (by decide), fun h => absurd h (by decide)⟩
theorem mx_m209 : mx_hM ("java/lang/Double", 134, 1003) := ⟨fun m h => absurd h (by intro q; cases q), fun h => absurd h (by decide), fun _ => mx_bg 1363 (by decide +kernel) (by decide +kernel), fun h => absurd h (by decide), fun h => absurd h (by decide)⟩
set_option maxRecDepth 100000 in
theorem mx_hMs : ∀ q ∈ mx_mls, mx_hM q := List.forall_mem_cons.mpr ⟨mx_m0, List.forall_mem_cons.mpr ⟨mx_m1, List.forall_mem_cons.mpr ⟨mx_m2, List.forall_mem_cons.mpr ⟨mx_m3, List.forall_mem_cons.mpr ⟨mx_m4, List.forall_mem_cons.mpr ⟨mx_m5, List.forall_mem_cons.mpr ⟨mx_m6, List.forall_mem_cons.mpr ⟨mx_m7, List.forall_mem_cons.mpr ⟨mx_m8, List.forall_mem_cons.mpr ⟨mx_m9, List.forall_mem_cons.mpr ⟨mx_m10, List.forall_mem_cons.mpr ⟨mx_m11, List.forall_mem_cons.mpr ⟨mx_m12, List.forall_mem_cons.mpr ⟨mx_m13, List.forall_mem_cons.mpr ⟨mx_m14, List.forall_mem_cons.mpr ⟨mx_m15, List.forall_mem_cons.mpr ⟨mx_m16, List.forall_mem_cons.mpr ⟨mx_m17, List.forall_mem_cons.mpr ⟨mx_m18, List.forall_mem_cons.mpr ⟨mx_m19, List.forall_mem_cons.mpr ⟨mx_m20, List.forall_mem_cons.mpr ⟨mx_m21, List.forall_mem_cons.mpr ⟨mx_m22, List.forall_mem_cons.mpr ⟨mx_m23, List.forall_mem_cons.mpr ⟨mx_m24, List.forall_mem_cons.mpr ⟨mx_m25, List.forall_mem_cons.mpr ⟨mx_m26, List.forall_mem_cons.mpr ⟨mx_m27, List.forall_mem_cons.mpr ⟨mx_m28, List.forall_mem_cons.mpr ⟨mx_m29, List.forall_mem_cons.mpr ⟨mx_m30, List.forall_mem_cons.mpr ⟨mx_m31, List.forall_mem_cons.mpr ⟨mx_m32, List.forall_mem_cons.mpr ⟨mx_m33, List.forall_mem_cons.mpr ⟨mx_m34, List.forall_mem_cons.mpr ⟨mx_m35, List.forall_mem_cons.mpr ⟨mx_m36, List.forall_mem_cons.mpr ⟨mx_m37, List.forall_mem_cons.mpr ⟨mx_m38, List.forall_mem_cons.mpr ⟨mx_m39, List.forall_mem_cons.mpr ⟨mx_m40, List.forall_mem_cons.mpr ⟨mx_m41, List.forall_mem_cons.mpr ⟨mx_m42, List.forall_mem_cons.mpr ⟨mx_m43, List.forall_mem_cons.mpr ⟨mx_m44, List.forall_mem_cons.mpr ⟨mx_m45, List.forall_mem_cons.mpr ⟨mx_m46, List.forall_mem_cons.mpr ⟨mx_m47, List.forall_mem_cons.mpr ⟨mx_m48, List.forall_mem_cons.mpr ⟨mx_m49, List.forall_mem_cons.mpr ⟨mx_m50, List.forall_mem_cons.mpr ⟨mx_m51, List.forall_mem_cons.mpr ⟨mx_m52, List.forall_mem_cons.mpr ⟨mx_m53, List.forall_mem_cons.mpr ⟨mx_m54, List.forall_mem_cons.mpr ⟨mx_m55, List.forall_mem_cons.mpr ⟨mx_m56, List.forall_mem_cons.mpr ⟨mx_m57, List.forall_mem_cons.mpr ⟨mx_m58, List.forall_mem_cons.mpr ⟨mx_m59, List.forall_mem_cons.mpr ⟨mx_m60, List.forall_mem_cons.mpr ⟨mx_m61, List.forall_mem_cons.mpr ⟨mx_m62, List.forall_mem_cons.mpr ⟨mx_m63, List.forall_mem_cons.mpr ⟨mx_m64, List.forall_mem_cons.mpr ⟨mx_m65, List.forall_mem_cons.mpr ⟨mx_m66, List.forall_mem_cons.mpr ⟨mx_m67, List.forall_mem_cons.mpr ⟨mx_m68, List.forall_mem_cons.mpr ⟨mx_m69, List.forall_mem_cons.mpr ⟨mx_m70, List.forall_mem_cons.mpr ⟨mx_m71, List.forall_mem_cons.mpr ⟨mx_m72, List.forall_mem_cons.mpr ⟨mx_m73, List.forall_mem_cons.mpr ⟨mx_m74, List.forall_mem_cons.mpr ⟨mx_m75, List.forall_mem_cons.mpr ⟨mx_m76, List.forall_mem_cons.mpr ⟨mx_m77, List.forall_mem_cons.mpr ⟨mx_m78, List.forall_mem_cons.mpr ⟨mx_m79, List.forall_mem_cons.mpr ⟨mx_m80, List.forall_mem_cons.mpr ⟨mx_m81, List.forall_mem_cons.mpr ⟨mx_m82, List.forall_mem_cons.mpr ⟨mx_m83, List.forall_mem_cons.mpr ⟨mx_m84, List.forall_mem_cons.mpr ⟨mx_m85, List.forall_mem_cons.mpr ⟨mx_m86, List.forall_mem_cons.mpr ⟨mx_m87, List.forall_mem_cons.mpr ⟨mx_m88, List.forall_mem_cons.mpr ⟨mx_m89, List.forall_mem_cons.mpr ⟨mx_m90, List.forall_mem_cons.mpr ⟨mx_m91, List.forall_mem_cons.mpr ⟨mx_m92, List.forall_mem_cons.mpr ⟨mx_m93, List.forall_mem_cons.mpr ⟨mx_m94, List.forall_mem_cons.mpr ⟨mx_m95, List.forall_mem_cons.mpr ⟨mx_m96, List.forall_mem_cons.mpr ⟨mx_m97, List.forall_mem_cons.mpr ⟨mx_m98, List.forall_mem_cons.mpr ⟨mx_m99, List.forall_mem_cons.mpr ⟨mx_m100, List.forall_mem_cons.mpr ⟨mx_m101, List.forall_mem_cons.mpr ⟨mx_m102, List.forall_mem_cons.mpr ⟨mx_m103, List.forall_mem_cons.mpr ⟨mx_m104, List.forall_mem_cons.mpr ⟨mx_m105, List.forall_mem_cons.mpr ⟨mx_m106, List.forall_mem_cons.mpr ⟨mx_m107, List.forall_mem_cons.mpr ⟨mx_m108, List.forall_mem_cons.mpr ⟨mx_m109, List.forall_mem_cons.mpr ⟨mx_m110, List.forall_mem_cons.mpr ⟨mx_m111, List.forall_mem_cons.mpr ⟨mx_m112, List.forall_mem_cons.mpr ⟨mx_m113, List.forall_mem_cons.mpr ⟨mx_m114, List.forall_mem_cons.mpr ⟨mx_m115, List.forall_mem_cons.mpr ⟨mx_m116, List.forall_mem_cons.mpr ⟨mx_m117, List.forall_mem_cons.mpr ⟨mx_m118, List.forall_mem_cons.mpr ⟨mx_m119, List.forall_mem_cons.mpr ⟨mx_m120, List.forall_mem_cons.mpr ⟨mx_m121, List.forall_mem_cons.mpr ⟨mx_m122, List.forall_mem_cons.mpr ⟨mx_m123, List.forall_mem_cons.mpr ⟨mx_m124, List.forall_mem_cons.mpr ⟨mx_m125, List.forall_mem_cons.mpr ⟨mx_m126, List.forall_mem_cons.mpr ⟨mx_m127, List.forall_mem_cons.mpr ⟨mx_m128, List.forall_mem_cons.mpr ⟨mx_m129, List.forall_mem_cons.mpr ⟨mx_m130, List.forall_mem_cons.mpr ⟨mx_m131, List.forall_mem_cons.mpr ⟨mx_m132, List.forall_mem_cons.mpr ⟨mx_m133, List.forall_mem_cons.mpr ⟨mx_m134, List.forall_mem_cons.mpr ⟨mx_m135, List.forall_mem_cons.mpr ⟨mx_m136, List.forall_mem_cons.mpr ⟨mx_m137, List.forall_mem_cons.mpr ⟨mx_m138, List.forall_mem_cons.mpr ⟨mx_m139, List.forall_mem_cons.mpr ⟨mx_m140, List.forall_mem_cons.mpr ⟨mx_m141, List.forall_mem_cons.mpr ⟨mx_m142, List.forall_mem_cons.mpr ⟨mx_m143, List.forall_mem_cons.mpr ⟨mx_m144, List.forall_mem_cons.mpr ⟨mx_m145, List.forall_mem_cons.mpr ⟨mx_m146, List.forall_mem_cons.mpr ⟨mx_m147, List.forall_mem_cons.mpr ⟨mx_m148, List.forall_mem_cons.mpr ⟨mx_m149, List.forall_mem_cons.mpr ⟨mx_m150, List.forall_mem_cons.mpr ⟨mx_m151, List.forall_mem_cons.mpr ⟨mx_m152, List.forall_mem_cons.mpr ⟨mx_m153, List.forall_mem_cons.mpr ⟨mx_m154, List.forall_mem_cons.mpr ⟨mx_m155, List.forall_mem_cons.mpr ⟨mx_m156, List.forall_mem_cons.mpr ⟨mx_m157, List.forall_mem_cons.mpr ⟨mx_m158, List.forall_mem_cons.mpr ⟨mx_m159, List.forall_mem_cons.mpr ⟨mx_m160, List.forall_mem_cons.mpr ⟨mx_m161, List.forall_mem_cons.mpr ⟨mx_m162, List.forall_mem_cons.mpr ⟨mx_m163, List.forall_mem_cons.mpr ⟨mx_m164, List.forall_mem_cons.mpr ⟨mx_m165, List.forall_mem_cons.mpr ⟨mx_m166, List.forall_mem_cons.mpr ⟨mx_m167, List.forall_mem_cons.mpr ⟨mx_m168, List.forall_mem_cons.mpr ⟨mx_m169, List.forall_mem_cons.mpr ⟨mx_m170, List.forall_mem_cons.mpr ⟨mx_m171, List.forall_mem_cons.mpr ⟨mx_m172, List.forall_mem_cons.mpr ⟨mx_m173, List.forall_mem_cons.mpr ⟨mx_m174, List.forall_mem_cons.mpr ⟨mx_m175, List.forall_mem_cons.mpr ⟨mx_m176, List.forall_mem_cons.mpr ⟨mx_m177, List.forall_mem_cons.mpr ⟨mx_m178, List.forall_mem_cons.mpr ⟨mx_m179, List.forall_mem_cons.mpr ⟨mx_m180, List.forall_mem_cons.mpr ⟨mx_m181, List.forall_mem_cons.mpr ⟨mx_m182, List.forall_mem_cons.mpr ⟨mx_m183, List.forall_mem_cons.mpr ⟨mx_m184, List.forall_mem_cons.mpr ⟨mx_m185, List.forall_mem_cons.mpr ⟨mx_m186, List.forall_mem_cons.mpr ⟨mx_m187, List.forall_mem_cons.mpr ⟨mx_m188, List.forall_mem_cons.mpr ⟨mx_m189, List.forall_mem_cons.mpr ⟨mx_m190, List.forall_mem_cons.mpr ⟨mx_m191, List.forall_mem_cons.mpr ⟨mx_m192, List.forall_mem_cons.mpr ⟨mx_m193, List.forall_mem_cons.mpr ⟨mx_m194, List.forall_mem_cons.mpr ⟨mx_m195, List.forall_mem_cons.mpr ⟨mx_m196, List.forall_mem_cons.mpr ⟨mx_m197, List.forall_mem_cons.mpr ⟨mx_m198, List.forall_mem_cons.mpr ⟨mx_m199, List.forall_mem_cons.mpr ⟨mx_m200, List.forall_mem_cons.mpr ⟨mx_m201, List.forall_mem_cons.mpr ⟨mx_m202, List.forall_mem_cons.mpr ⟨mx_m203, List.forall_mem_cons.mpr ⟨mx_m204, List.forall_mem_cons.mpr ⟨mx_m205, List.forall_mem_cons.mpr ⟨mx_m206, List.forall_mem_cons.mpr ⟨mx_m207, List.forall_mem_cons.mpr ⟨mx_m208, List.forall_mem_cons.mpr ⟨mx_m209, fun _ h => absurd h List.not_mem_nil⟩⟩⟩⟩⟩⟩⟩⟩⟩⟩⟩⟩⟩⟩⟩⟩⟩⟩⟩⟩⟩⟩⟩⟩⟩⟩⟩⟩⟩⟩⟩⟩⟩⟩⟩⟩⟩⟩⟩⟩⟩⟩⟩⟩⟩⟩⟩⟩⟩⟩⟩⟩⟩⟩⟩⟩⟩⟩⟩⟩⟩⟩⟩⟩⟩⟩⟩⟩⟩⟩⟩⟩⟩⟩⟩⟩⟩⟩⟩⟩⟩⟩⟩⟩⟩⟩⟩⟩⟩⟩⟩⟩⟩⟩⟩⟩⟩⟩⟩⟩⟩⟩⟩⟩⟩⟩⟩⟩⟩⟩⟩⟩⟩⟩⟩⟩⟩⟩⟩⟩⟩⟩⟩⟩⟩⟩⟩⟩⟩⟩⟩⟩⟩⟩⟩⟩⟩⟩⟩⟩⟩⟩⟩⟩⟩⟩⟩⟩⟩⟩⟩⟩⟩⟩⟩⟩⟩⟩⟩⟩⟩⟩⟩⟩⟩⟩⟩⟩⟩⟩⟩⟩⟩⟩⟩⟩⟩⟩⟩⟩⟩⟩⟩⟩⟩⟩⟩⟩⟩⟩⟩⟩⟩⟩⟩⟩⟩⟩⟩⟩⟩⟩⟩⟩⟩⟩⟩⟩⟩⟩
theorem mx_hKi : ∀ q ∈ mx_kis, Jvm.Cond.constant q.1 q.2.1 (mx_cI q.2.2.1 q.2.2.2) ∈ mx_big := List.forall_mem_cons.mpr ⟨mx_bg 744 (by decide +kernel) (by decide +kernel), List.forall_mem_cons.mpr ⟨mx_bg 745 (by decide +kernel) (by decide +kernel), List.forall_mem_cons.mpr ⟨mx_bg 746 (by decide +kernel) (by decide +kernel), fun _ h => absurd h List.not_mem_nil⟩⟩⟩
theorem mx_hKl : ∀ q ∈ mx_kls, Jvm.Cond.constantLong q.1 q.2.1 (mx_cL q.2.2.1 q.2.2.2) ∈ mx_big := List.forall_mem_cons.mpr ⟨mx_bg 1229 (by decide +kernel) (by decide +kernel), List.forall_mem_cons.mpr ⟨mx_bg 1348 (by decide +kernel) (by decide +kernel), List.forall_mem_cons.mpr ⟨mx_bg 1349 (by decide +kernel) (by decide +kernel), List.forall_mem_cons.mpr ⟨mx_bg 1350 (by decide +kernel) (by decide +kernel), List.forall_mem_cons.mpr ⟨mx_bg 1352 (by decide +kernel) (by decide +kernel), List.forall_mem_cons.mpr ⟨mx_bg 799 (by decide +kernel) (by decide +kernel), List.forall_mem_cons.mpr ⟨mx_bg 822 (by decide +kernel) (by decide +kernel), List.forall_mem_cons.mpr ⟨mx_bg 824 (by decide +kernel) (by decide +kernel), List.forall_mem_cons.mpr ⟨mx_bg 783 (by decide +kernel) (by decide +kernel), List.forall_mem_cons.mpr ⟨mx_bg 784 (by decide +kernel) (by decide +kernel), List.forall_mem_cons.mpr ⟨mx_bg 785 (by decide +kernel) (by decide +kernel), List.forall_mem_cons.mpr ⟨mx_bg 788 (by decide +kernel) (by decide +kernel), List.forall_mem_cons.mpr ⟨mx_bg 1366 (by decide +kernel) (by decide +kernel), fun _ h => absurd h List.not_mem_nil⟩⟩⟩⟩⟩⟩⟩⟩⟩⟩⟩⟩⟩
theorem mx_hKd : ∀ q ∈ mx_kds, Jvm.Cond.constantDouble q.1 q.2.1 (mx_cD q.2.2) ∈ mx_big := List.forall_mem_cons.mpr ⟨mx_bg 823 (by decide +kernel) (by decide +kernel), List.forall_mem_cons.mpr ⟨mx_bg 825 (by decide +kernel) (by decide +kernel), fun _ h => absurd h List.not_mem_nil⟩⟩
theorem mx_hN1 : Jvm.Cond.native arraycopyName ∈ mx_big ∧ Jvm.Cond.static arraycopyName ∈ mx_big ∧ Jvm.Cond.initialized "java/lang/System" ∈ mx_big := ⟨mx_bg 483 (by decide +kernel) (by decide +kernel), mx_bg 482 (by decide +kernel) (by decide +kernel), mx_bg 70 (by decide +kernel) (by decide +kernel)⟩
theorem mx_hN2 : Jvm.Cond.native ⟨"java/lang/Double", "doubleToRawLongBits", "(D)J"⟩ ∈ mx_big ∧ Jvm.Cond.static ⟨"java/lang/Double", "doubleToRawLongBits", "(D)J"⟩ ∈ mx_big ∧ Jvm.Cond.initialized "java/lang/Double" ∈ mx_big := ⟨mx_bg 1365 (by decide +kernel) (by decide +kernel), mx_bg 1364 (by decide +kernel) (by decide +kernel), mx_bg 78 (by decide +kernel) (by decide +kernel)⟩
theorem mx_hN3 : Jvm.Cond.static Lib.Math.max.name ∈ mx_big ∧ Jvm.Cond.static Lib.Math.min.name ∈ mx_big ∧ Jvm.Cond.initialized "java/lang/Math" ∈ mx_big ∧ Jvm.Cond.code Lib.Math.max.name Lib.Math.max.code 2 (some .int) ∈ mx_big ∧ Jvm.Cond.code Lib.Math.min.name Lib.Math.min.code 2 (some .int) ∈ mx_big := ⟨mx_bg 622 (by decide +kernel) (by decide +kernel), mx_bg 502 (by decide +kernel) (by decide +kernel), mx_bg 71 (by decide +kernel) (by decide +kernel), mx_bg 623 (by decide +kernel) (by decide +kernel), mx_bg 503 (by decide +kernel) (by decide +kernel)⟩
def mx_hC (C : String) (TT : u_T) (N : Nat) : Prop := (∀ w ∈ u_ws C TT N, w ∈ mx_big) ∧ (∃ ty0 : Nat → FieldType, ∀ k, k < N → parseFieldDescriptor (TT k).2.2.1 = some (ty0 k)) ∧ ∀ a, a < N → ∀ b, b < N → a ≠ b → (TT a).2.1 ≠ (TT b).2.1
theorem mx_uw0 : ∀ w ∈ [u_lay RX0 TX0 0, u_lay RX0 TX0 1], w ∈ mx_big := List.forall_mem_cons.mpr ⟨mx_bg 261 (by decide +kernel) (by decide +kernel), List.forall_mem_cons.mpr ⟨mx_bg 263 (by decide +kernel) (by decide +kernel), fun _ h => absurd h List.not_mem_nil⟩⟩
theorem mx_c0 : mx_hC RX0 TX0 2 := ⟨mx_uw0, ⟨tyX0, tyX0_ok⟩, nmX0⟩
theorem mx_uw1 : ∀ w ∈ [u_lay RX1 TX1 0, u_lay RX1 TX1 1], w ∈ mx_big := List.forall_mem_cons.mpr ⟨mx_bg 137 (by decide +kernel) (by decide +kernel), List.forall_mem_cons.mpr ⟨mx_bg 139 (by decide +kernel) (by decide +kernel), fun _ h => absurd h List.not_mem_nil⟩⟩
theorem mx_c1 : mx_hC RX1 TX1 2 := ⟨mx_uw1, ⟨tyX1, tyX1_ok⟩, nmX1⟩
theorem mx_uw2 : ∀ w ∈ [u_lay RX2 TX2 0, u_lay RX2 TX2 1, u_lay RX2 TX2 2], w ∈ mx_big := List.forall_mem_cons.mpr ⟨mx_bg 218 (by decide +kernel) (by decide +kernel), List.forall_mem_cons.mpr ⟨mx_bg 220 (by decide +kernel) (by decide +kernel), List.forall_mem_cons.mpr ⟨mx_bg 222 (by decide +kernel) (by decide +kernel), fun _ h => absurd h List.not_mem_nil⟩⟩⟩
theorem mx_c2 : mx_hC RX2 TX2 3 := ⟨mx_uw2, ⟨tyX2, tyX2_ok⟩, nmX2⟩
theorem mx_uw3 : ∀ w ∈ [u_lay RX3 TX3 0, u_lay RX3 TX3 1, u_lay RX3 TX3 2, u_lay RX3 TX3 3, u_lay RX3 TX3 4, u_lay RX3 TX3 5, u_lay RX3 TX3 6], w ∈ mx_big := List.forall_mem_cons.mpr ⟨mx_bg 238 (by decide +kernel) (by decide +kernel), List.forall_mem_cons.mpr ⟨mx_bg 240 (by decide +kernel) (by decide +kernel), List.forall_mem_cons.mpr ⟨mx_bg 242 (by decide +kernel) (by decide +kernel), List.forall_mem_cons.mpr ⟨mx_bg 244 (by decide +kernel) (by decide +kernel), List.forall_mem_cons.mpr ⟨mx_bg 246 (by decide +kernel) (by decide +kernel), List.forall_mem_cons.mpr ⟨mx_bg 248 (by decide +kernel) (by decide +kernel), List.forall_mem_cons.mpr ⟨mx_bg 250 (by decide +kernel) (by decide +kernel), fun _ h => absurd h List.not_mem_nil⟩⟩⟩⟩⟩⟩⟩
theorem mx_c3 : mx_hC RX3 TX3 7 := ⟨mx_uw3, ⟨tyX3, tyX3_ok⟩, nmX3⟩
theorem mx_uw4 : ∀ w ∈ [u_lay RX4 TX4 0, u_lay RX4 TX4 1, u_lay RX4 TX4 2, u_lay RX4 TX4 3, u_lay RX4 TX4 4, u_lay RX4 TX4 5, u_lay RX4 TX4 6], w ∈ mx_big := List.forall_mem_cons.mpr ⟨mx_bg 100 (by decide +kernel) (by decide +kernel), List.forall_mem_cons.mpr ⟨mx_bg 102 (by decide +kernel) (by decide +kernel), List.forall_mem_cons.mpr ⟨mx_bg 104 (by decide +kernel) (by decide +kernel), List.forall_mem_cons.mpr ⟨mx_bg 106 (by decide +kernel) (by decide +kernel), List.forall_mem_cons.mpr ⟨mx_bg 108 (by decide +kernel) (by decide +kernel), List.forall_mem_cons.mpr ⟨mx_bg 110 (by decide +kernel) (by decide +kernel), List.forall_mem_cons.mpr ⟨mx_bg 112 (by decide +kernel) (by decide +kernel), fun _ h => absurd h List.not_mem_nil⟩⟩⟩⟩⟩⟩⟩
theorem mx_c4 : mx_hC RX4 TX4 7 := ⟨mx_uw4, ⟨tyX4, tyX4_ok⟩, nmX4⟩
theorem mx_uw5 : ∀ w ∈ [u_lay RX5 TX5 0, u_lay RX5 TX5 1], w ∈ mx_big := List.forall_mem_cons.mpr ⟨mx_bg 202 (by decide +kernel) (by decide +kernel), List.forall_mem_cons.mpr ⟨mx_bg 204 (by decide +kernel) (by decide +kernel), fun _ h => absurd h List.not_mem_nil⟩⟩
theorem mx_c5 : mx_hC RX5 TX5 2 := ⟨mx_uw5, ⟨tyX5, tyX5_ok⟩, nmX5⟩
theorem mx_uw6 : ∀ w ∈ [u_lay RX6 TX6 0, u_lay RX6 TX6 1, u_lay RX6 TX6 2, u_lay RX6 TX6 3, u_lay RX6 TX6 4, u_lay RX6 TX6 5, u_lay RX6 TX6 6, u_lay RX6 TX6 7, u_lay RX6 TX6 8], w ∈ mx_big := List.forall_mem_cons.mpr ⟨mx_bg 159 (by decide +kernel) (by decide +kernel), List.forall_mem_cons.mpr ⟨mx_bg 161 (by decide +kernel) (by decide +kernel), List.forall_mem_cons.mpr ⟨mx_bg 163 (by decide +kernel) (by decide +kernel), List.forall_mem_cons.mpr ⟨mx_bg 165 (by decide +kernel) (by decide +kernel), List.forall_mem_cons.mpr ⟨mx_bg 167 (by decide +kernel) (by decide +kernel), List.forall_mem_cons.mpr ⟨mx_bg 169 (by decide +kernel) (by decide +kernel), List.forall_mem_cons.mpr ⟨mx_bg 171 (by decide +kernel) (by decide +kernel), List.forall_mem_cons.mpr ⟨mx_bg 173 (by decide +kernel) (by decide +kernel), List.forall_mem_cons.mpr ⟨mx_bg 175 (by decide +kernel) (by decide +kernel), fun _ h => absurd h List.not_mem_nil⟩⟩⟩⟩⟩⟩⟩⟩⟩
theorem mx_c6 : mx_hC RX6 TX6 9 := ⟨mx_uw6, ⟨tyX6, tyX6_ok⟩, nmX6⟩
theorem mx_uw7 : ∀ w ∈ [u_lay RX7 TX7 0, u_lay RX7 TX7 1, u_lay RX7 TX7 2], w ∈ mx_big := List.forall_mem_cons.mpr ⟨mx_bg 276 (by decide +kernel) (by decide +kernel), List.forall_mem_cons.mpr ⟨mx_bg 278 (by decide +kernel) (by decide +kernel), List.forall_mem_cons.mpr ⟨mx_bg 280 (by decide +kernel) (by decide +kernel), fun _ h => absurd h List.not_mem_nil⟩⟩⟩
theorem mx_c7 : mx_hC RX7 TX7 3 := ⟨mx_uw7, ⟨tyX7, tyX7_ok⟩, nmX7⟩
theorem mx_uw8 : ∀ w ∈ [u_lay RX8 TX8 0, u_lay RX8 TX8 1], w ∈ mx_big := List.forall_mem_cons.mpr ⟨mx_bg 124 (by decide +kernel) (by decide +kernel), List.forall_mem_cons.mpr ⟨mx_bg 126 (by decide +kernel) (by decide +kernel), fun _ h => absurd h List.not_mem_nil⟩⟩
theorem mx_c8 : mx_hC RX8 TX8 2 := ⟨mx_uw8, ⟨tyX8, tyX8_ok⟩, nmX8⟩
theorem mx_uw9 : ∀ w ∈ [u_lay RX9 TX9 0, u_lay RX9 TX9 1], w ∈ mx_big := List.forall_mem_cons.mpr ⟨mx_bg 188 (by decide +kernel) (by decide +kernel), List.forall_mem_cons.mpr ⟨mx_bg 190 (by decide +kernel) (by decide +kernel), fun _ h => absurd h List.not_mem_nil⟩⟩
theorem mx_c9 : mx_hC RX9 TX9 2 := ⟨mx_uw9, ⟨tyX9, tyX9_ok⟩, nmX9⟩
theorem mx_uw10 : ∀ w ∈ [u_lay RX10 TX10 0, u_lay RX10 TX10 1, u_lay RX10 TX10 2, u_lay RX10 TX10 3, u_lay RX10 TX10 4, u_lay RX10 TX10 5, u_lay RX10 TX10 6, u_lay RX10 TX10 7, u_lay RX10 TX10 8, u_lay RX10 TX10 9, u_lay RX10 TX10 10, u_lay RX10 TX10 11, u_lay RX10 TX10 12], w ∈ mx_big := List.forall_mem_cons.mpr ⟨mx_bg 297 (by decide +kernel) (by decide +kernel), List.forall_mem_cons.mpr ⟨mx_bg 299 (by decide +kernel) (by decide +kernel), List.forall_mem_cons.mpr ⟨mx_bg 301 (by decide +kernel) (by decide +kernel), List.forall_mem_cons.mpr ⟨mx_bg 303 (by decide +kernel) (by decide +kernel), List.forall_mem_cons.mpr ⟨mx_bg 305 (by decide +kernel) (by decide +kernel), List.forall_mem_cons.mpr ⟨mx_bg 307 (by decide +kernel) (by decide +kernel), List.forall_mem_cons.mpr ⟨mx_bg 309 (by decide +kernel) (by decide +kernel), List.forall_mem_cons.mpr ⟨mx_bg 311 (by decide +kernel) (by decide +kernel), List.forall_mem_cons.mpr ⟨mx_bg 313 (by decide +kernel) (by decide +kernel), List.forall_mem_cons.mpr ⟨mx_bg 315 (by decide +kernel) (by decide +kernel), List.forall_mem_cons.mpr ⟨mx_bg 317 (by decide +kernel) (by decide +kernel), List.forall_mem_cons.mpr ⟨mx_bg 319 (by decide +kernel) (by decide +kernel), List.forall_mem_cons.mpr ⟨mx_bg 321 (by decide +kernel) (by decide +kernel), fun _ h => absurd h List.not_mem_nil⟩⟩⟩⟩⟩⟩⟩⟩⟩⟩⟩⟩⟩
theorem mx_c10 : mx_hC RX10 TX10 13 := ⟨mx_uw10, ⟨tyX10, tyX10_ok⟩, nmX10⟩
theorem mx_uw11 : ∀ w ∈ [u_lay RX11 TX11 0, u_lay RX11 TX11 1, u_lay RX11 TX11 2, u_lay RX11 TX11 3, u_lay RX11 TX11 4, u_lay RX11 TX11 5, u_lay RX11 TX11 6, u_lay RX11 TX11 7, u_lay RX11 TX11 8, u_lay RX11 TX11 9, u_lay RX11 TX11 10, u_lay RX11 TX11 11, u_lay RX11 TX11 12, u_lay RX11 TX11 13, u_lay RX11 TX11 14, u_lay RX11 TX11 15, u_lay RX11 TX11 16, u_lay RX11 TX11 17, u_lay RX11 TX11 18, u_lay RX11 TX11 19, u_lay RX11 TX11 20, u_lay RX11 TX11 21, u_lay RX11 TX11 22, u_lay RX11 TX11 23, u_lay RX11 TX11 24, u_lay RX11 TX11 25, u_lay RX11 TX11 26, u_lay RX11 TX11 27, u_lay RX11 TX11 28, u_lay RX11 TX11 29, u_lay RX11 TX11 30, u_lay RX11 TX11 31, u_lay RX11 TX11 32, u_lay RX11 TX11 33, u_lay RX11 TX11 34, u_lay RX11 TX11 35, u_lay RX11 TX11 36, u_lay RX11 TX11 37], w ∈ mx_big := List.forall_mem_cons.mpr ⟨mx_bg 1081 (by decide +kernel) (by decide +kernel), List.forall_mem_cons.mpr ⟨mx_bg 1083 (by decide +kernel) (by decide +kernel), List.forall_mem_cons.mpr ⟨mx_bg 1085 (by decide +kernel) (by decide +kernel), List.forall_mem_cons.mpr ⟨mx_bg 1087 (by decide +kernel) (by decide +kernel), List.forall_mem_cons.mpr ⟨mx_bg 1089 (by decide +kernel) (by decide +kernel), List.forall_mem_cons.mpr ⟨mx_bg 1091 (by decide +kernel) (by decide +kernel), List.forall_mem_cons.mpr ⟨mx_bg 1093 (by decide +kernel) (by decide +kernel), List.forall_mem_cons.mpr ⟨mx_bg 1095 (by decide +kernel) (by decide +kernel), List.forall_mem_cons.mpr ⟨mx_bg 1097 (by decide +kernel) (by decide +kernel), List.forall_mem_cons.mpr ⟨mx_bg 1099 (by decide +kernel) (by decide +kernel), List.forall_mem_cons.mpr ⟨mx_bg 1101 (by decide +kernel) (by decide +kernel), List.forall_mem_cons.mpr ⟨mx_bg 1103 (by decide +kernel) (by decide +kernel), List.forall_mem_cons.mpr ⟨mx_bg 1105 (by decide +kernel) (by decide +kernel), List.forall_mem_cons.mpr ⟨mx_bg 1107 (by decide +kernel) (by decide +kernel), List.forall_mem_cons.mpr ⟨mx_bg 1109 (by decide +kernel) (by decide +kernel), List.forall_mem_cons.mpr ⟨mx_bg 1111 (by decide +kernel) (by decide +kernel), List.forall_mem_cons.mpr ⟨mx_bg 1113 (by decide +kernel) (by decide +kernel), List.forall_mem_cons.mpr ⟨mx_bg 1115 (by decide +kernel) (by decide +kernel), List.forall_mem_cons.mpr ⟨mx_bg 1117 (by decide +kernel) (by decide +kernel), List.forall_mem_cons.mpr ⟨mx_bg 1119 (by decide +kernel) (by decide +kernel), List.forall_mem_cons.mpr ⟨mx_bg 1121 (by decide +kernel) (by decide +kernel), List.forall_mem_cons.mpr ⟨mx_bg 1123 (by decide +kernel) (by decide +kernel), List.forall_mem_cons.mpr ⟨mx_bg 1125 (by decide +kernel) (by decide +kernel), List.forall_mem_cons.mpr ⟨mx_bg 1127 (by decide +kernel) (by decide +kernel), List.forall_mem_cons.mpr ⟨mx_bg 1129 (by decide +kernel) (by decide +kernel), List.forall_mem_cons.mpr ⟨mx_bg 1131 (by decide +kernel) (by decide +kernel), List.forall_mem_cons.mpr ⟨mx_bg 1133 (by decide +kernel) (by decide +kernel), List.forall_mem_cons.mpr ⟨mx_bg 1135 (by decide +kernel) (by decide +kernel), List.forall_mem_cons.mpr ⟨mx_bg 1137 (by decide +kernel) (by decide +kernel), List.forall_mem_cons.mpr ⟨mx_bg 1139 (by decide +kernel) (by decide +kernel), List.forall_mem_cons.mpr ⟨mx_bg 1141 (by decide +kernel) (by decide +kernel), List.forall_mem_cons.mpr ⟨mx_bg 1143 (by decide +kernel) (by decide +kernel), List.forall_mem_cons.mpr ⟨mx_bg 1145 (by decide +kernel) (by decide +kernel), List.forall_mem_cons.mpr ⟨mx_bg 1147 (by decide +kernel) (by decide +kernel), List.forall_mem_cons.mpr ⟨mx_bg 1149 (by decide +kernel) (by decide +kernel), List.forall_mem_cons.mpr ⟨mx_bg 1151 (by decide +kernel) (by decide +kernel), List.forall_mem_cons.mpr ⟨mx_bg 1153 (by decide +kernel) (by decide +kernel), List.forall_mem_cons.mpr ⟨mx_bg 1155 (by decide +kernel) (by decide +kernel), fun _ h => absurd h List.not_mem_nil⟩⟩⟩⟩⟩⟩⟩⟩⟩⟩⟩⟩⟩⟩⟩⟩⟩⟩⟩⟩⟩⟩⟩⟩⟩⟩⟩⟩⟩⟩⟩⟩⟩⟩⟩⟩⟩⟩
theorem mx_c11 : mx_hC RX11 TX11 38 := ⟨mx_uw11, ⟨tyX11, tyX11_ok⟩, nmX11⟩
theorem mx_hCs : ∀ (ci : Nat) (C : String) (TT : u_T) (N : Nat), vwCl[ci]? = some (C, TT, N) → mx_hC C TT N := by
  intro ci C TT N h
  match ci, h with
  | 0, h => cases h; exact mx_c0
  | 1, h => cases h; exact mx_c1
  | 2, h => cases h; exact mx_c2
  | 3, h => cases h; exact mx_c3
  | 4, h => cases h; exact mx_c4
  | 5, h => cases h; exact mx_c5
  | 6, h => cases h; exact mx_c6
  | 7, h => cases h; exact mx_c7
  | 8, h => cases h; exact mx_c8
  | 9, h => cases h; exact mx_c9
  | 10, h => cases h; exact mx_c10
  | 11, h => cases h; exact mx_c11
  | n + 12, h => simp [vwCl] at h
def mx_hT (m : mx_M) : Prop := mx_okM mx_TT mx_mt m = true ∧ Jvm.Cond.code m.1 m.2.1 m.2.2.1 m.2.2.2.1 ∈ mx_big ∧ Jvm.Cond.initialized m.1.cls ∈ mx_big ∧ (m.1.cls ≠ "java/lang/invoke/MethodHandle" ∧ m.1.cls ≠ "java/lang/invoke/VarHandle") ∧ (if m.2.2.2.2.1 = true then Jvm.Cond.static m.1 ∈ mx_big else Jvm.Cond.instanceMethod m.1 ∈ mx_big ∧ Jvm.Cond.selects m.1.cls m.1 m.1 ∈ mx_big)
theorem hX10_loadRunLength : mx_hT mX10_loadRunLength := ⟨okX10_loadRunLength, mx_bg 327 (by decide +kernel) (by decide +kernel), mx_bg 57 (by decide +kernel) (by decide +kernel), ⟨by decide +kernel, by decide +kernel⟩, ⟨mx_bg 325 (by decide +kernel) (by decide +kernel), mx_bg 326 (by decide +kernel) (by decide +kernel)⟩⟩
theorem hX10_loadCharge : mx_hT mX10_loadCharge := ⟨okX10_loadCharge, mx_bg 362 (by decide +kernel) (by decide +kernel), mx_bg 57 (by decide +kernel) (by decide +kernel), ⟨by decide +kernel, by decide +kernel⟩, ⟨mx_bg 360 (by decide +kernel) (by decide +kernel), mx_bg 361 (by decide +kernel) (by decide +kernel)⟩⟩
theorem hX10_clear : mx_hT mX10_clear := ⟨okX10_clear, mx_bg 370 (by decide +kernel) (by decide +kernel), mx_bg 57 (by decide +kernel) (by decide +kernel), ⟨by decide +kernel, by decide +kernel⟩, ⟨mx_bg 368 (by decide +kernel) (by decide +kernel), mx_bg 369 (by decide +kernel) (by decide +kernel)⟩⟩
theorem hX10_addState : mx_hT mX10_addState := ⟨okX10_addState, mx_bg 375 (by decide +kernel) (by decide +kernel), mx_bg 57 (by decide +kernel) (by decide +kernel), ⟨by decide +kernel, by decide +kernel⟩, ⟨mx_bg 373 (by decide +kernel) (by decide +kernel), mx_bg 374 (by decide +kernel) (by decide +kernel)⟩⟩
theorem hX10_addEdge : mx_hT mX10_addEdge := ⟨okX10_addEdge, mx_bg 383 (by decide +kernel) (by decide +kernel), mx_bg 57 (by decide +kernel) (by decide +kernel), ⟨by decide +kernel, by decide +kernel⟩, ⟨mx_bg 381 (by decide +kernel) (by decide +kernel), mx_bg 382 (by decide +kernel) (by decide +kernel)⟩⟩
theorem hX10_removeEdge : mx_hT mX10_removeEdge := ⟨okX10_removeEdge, mx_bg 388 (by decide +kernel) (by decide +kernel), mx_bg 57 (by decide +kernel) (by decide +kernel), ⟨by decide +kernel, by decide +kernel⟩, ⟨mx_bg 386 (by decide +kernel) (by decide +kernel), mx_bg 387 (by decide +kernel) (by decide +kernel)⟩⟩
theorem hX10_stateCount : mx_hT mX10_stateCount := ⟨okX10_stateCount, mx_bg 400 (by decide +kernel) (by decide +kernel), mx_bg 57 (by decide +kernel) (by decide +kernel), ⟨by decide +kernel, by decide +kernel⟩, ⟨mx_bg 398 (by decide +kernel) (by decide +kernel), mx_bg 399 (by decide +kernel) (by decide +kernel)⟩⟩
theorem hX10_edgeCount : mx_hT mX10_edgeCount := ⟨okX10_edgeCount, mx_bg 408 (by decide +kernel) (by decide +kernel), mx_bg 57 (by decide +kernel) (by decide +kernel), ⟨by decide +kernel, by decide +kernel⟩, ⟨mx_bg 406 (by decide +kernel) (by decide +kernel), mx_bg 407 (by decide +kernel) (by decide +kernel)⟩⟩
theorem hX10_labelLength : mx_hT mX10_labelLength := ⟨okX10_labelLength, mx_bg 416 (by decide +kernel) (by decide +kernel), mx_bg 57 (by decide +kernel) (by decide +kernel), ⟨by decide +kernel, by decide +kernel⟩, ⟨mx_bg 414 (by decide +kernel) (by decide +kernel), mx_bg 415 (by decide +kernel) (by decide +kernel)⟩⟩
theorem hX10_edgeStart : mx_hT mX10_edgeStart := ⟨okX10_edgeStart, mx_bg 424 (by decide +kernel) (by decide +kernel), mx_bg 57 (by decide +kernel) (by decide +kernel), ⟨by decide +kernel, by decide +kernel⟩, ⟨mx_bg 422 (by decide +kernel) (by decide +kernel), mx_bg 423 (by decide +kernel) (by decide +kernel)⟩⟩
theorem hX10_edgeLabel : mx_hT mX10_edgeLabel := ⟨okX10_edgeLabel, mx_bg 433 (by decide +kernel) (by decide +kernel), mx_bg 57 (by decide +kernel) (by decide +kernel), ⟨by decide +kernel, by decide +kernel⟩, ⟨mx_bg 431 (by decide +kernel) (by decide +kernel), mx_bg 432 (by decide +kernel) (by decide +kernel)⟩⟩
theorem hX10_edgeEnd : mx_hT mX10_edgeEnd := ⟨okX10_edgeEnd, mx_bg 441 (by decide +kernel) (by decide +kernel), mx_bg 57 (by decide +kernel) (by decide +kernel), ⟨by decide +kernel, by decide +kernel⟩, ⟨mx_bg 439 (by decide +kernel) (by decide +kernel), mx_bg 440 (by decide +kernel) (by decide +kernel)⟩⟩
theorem hX10_power : mx_hT mX10_power := ⟨okX10_power, mx_bg 449 (by decide +kernel) (by decide +kernel), mx_bg 57 (by decide +kernel) (by decide +kernel), ⟨by decide +kernel, by decide +kernel⟩, ⟨mx_bg 447 (by decide +kernel) (by decide +kernel), mx_bg 448 (by decide +kernel) (by decide +kernel)⟩⟩
theorem hX10_split : mx_hT mX10_split := ⟨okX10_split, mx_bg 492 (by decide +kernel) (by decide +kernel), mx_bg 57 (by decide +kernel) (by decide +kernel), ⟨by decide +kernel, by decide +kernel⟩, ⟨mx_bg 490 (by decide +kernel) (by decide +kernel), mx_bg 491 (by decide +kernel) (by decide +kernel)⟩⟩
theorem hX10_isDeterministic : mx_hT mX10_isDeterministic := ⟨okX10_isDeterministic, mx_bg 520 (by decide +kernel) (by decide +kernel), mx_bg 57 (by decide +kernel) (by decide +kernel), ⟨by decide +kernel, by decide +kernel⟩, ⟨mx_bg 518 (by decide +kernel) (by decide +kernel), mx_bg 519 (by decide +kernel) (by decide +kernel)⟩⟩
theorem hX10_isIrreducible : mx_hT mX10_isIrreducible := ⟨okX10_isIrreducible, mx_bg 528 (by decide +kernel) (by decide +kernel), mx_bg 57 (by decide +kernel) (by decide +kernel), ⟨by decide +kernel, by decide +kernel⟩, ⟨mx_bg 526 (by decide +kernel) (by decide +kernel), mx_bg 527 (by decide +kernel) (by decide +kernel)⟩⟩
theorem hX10_afterGraphChange : mx_hT mX10_afterGraphChange := ⟨okX10_afterGraphChange, mx_bg 347 (by decide +kernel) (by decide +kernel), mx_bg 57 (by decide +kernel) (by decide +kernel), ⟨by decide +kernel, by decide +kernel⟩, ⟨mx_bg 346 (by decide +kernel) (by decide +kernel), mx_bg 0 (by decide +kernel) (by decide +kernel)⟩⟩
theorem hX10_appendCharacter : mx_hT mX10_appendCharacter := ⟨okX10_appendCharacter, mx_bg 540 (by decide +kernel) (by decide +kernel), mx_bg 57 (by decide +kernel) (by decide +kernel), ⟨by decide +kernel, by decide +kernel⟩, ⟨mx_bg 538 (by decide +kernel) (by decide +kernel), mx_bg 539 (by decide +kernel) (by decide +kernel)⟩⟩
theorem hX10_parseConstraint : mx_hT mX10_parseConstraint := ⟨okX10_parseConstraint, mx_bg 548 (by decide +kernel) (by decide +kernel), mx_bg 57 (by decide +kernel) (by decide +kernel), ⟨by decide +kernel, by decide +kernel⟩, ⟨mx_bg 546 (by decide +kernel) (by decide +kernel), mx_bg 547 (by decide +kernel) (by decide +kernel)⟩⟩
theorem hX10_appendBit : mx_hT mX10_appendBit := ⟨okX10_appendBit, mx_bg 628 (by decide +kernel) (by decide +kernel), mx_bg 57 (by decide +kernel) (by decide +kernel), ⟨by decide +kernel, by decide +kernel⟩, ⟨mx_bg 626 (by decide +kernel) (by decide +kernel), mx_bg 627 (by decide +kernel) (by decide +kernel)⟩⟩
theorem hX10_clearWord : mx_hT mX10_clearWord := ⟨okX10_clearWord, mx_bg 640 (by decide +kernel) (by decide +kernel), mx_bg 57 (by decide +kernel) (by decide +kernel), ⟨by decide +kernel, by decide +kernel⟩, ⟨mx_bg 638 (by decide +kernel) (by decide +kernel), mx_bg 639 (by decide +kernel) (by decide +kernel)⟩⟩
theorem hX10_wordLength : mx_hT mX10_wordLength := ⟨okX10_wordLength, mx_bg 652 (by decide +kernel) (by decide +kernel), mx_bg 57 (by decide +kernel) (by decide +kernel), ⟨by decide +kernel, by decide +kernel⟩, ⟨mx_bg 650 (by decide +kernel) (by decide +kernel), mx_bg 651 (by decide +kernel) (by decide +kernel)⟩⟩
theorem hX10_wordBit : mx_hT mX10_wordBit := ⟨okX10_wordBit, mx_bg 656 (by decide +kernel) (by decide +kernel), mx_bg 57 (by decide +kernel) (by decide +kernel), ⟨by decide +kernel, by decide +kernel⟩, ⟨mx_bg 654 (by decide +kernel) (by decide +kernel), mx_bg 655 (by decide +kernel) (by decide +kernel)⟩⟩
theorem hX10_firstViolation : mx_hT mX10_firstViolation := ⟨okX10_firstViolation, mx_bg 668 (by decide +kernel) (by decide +kernel), mx_bg 57 (by decide +kernel) (by decide +kernel), ⟨by decide +kernel, by decide +kernel⟩, ⟨mx_bg 666 (by decide +kernel) (by decide +kernel), mx_bg 667 (by decide +kernel) (by decide +kernel)⟩⟩
theorem hX10_balance : mx_hT mX10_balance := ⟨okX10_balance, mx_bg 689 (by decide +kernel) (by decide +kernel), mx_bg 57 (by decide +kernel) (by decide +kernel), ⟨by decide +kernel, by decide +kernel⟩, ⟨mx_bg 687 (by decide +kernel) (by decide +kernel), mx_bg 688 (by decide +kernel) (by decide +kernel)⟩⟩
theorem hX10_invert : mx_hT mX10_invert := ⟨okX10_invert, mx_bg 705 (by decide +kernel) (by decide +kernel), mx_bg 57 (by decide +kernel) (by decide +kernel), ⟨by decide +kernel, by decide +kernel⟩, ⟨mx_bg 703 (by decide +kernel) (by decide +kernel), mx_bg 704 (by decide +kernel) (by decide +kernel)⟩⟩
theorem hX10_countWords : mx_hT mX10_countWords := ⟨okX10_countWords, mx_bg 710 (by decide +kernel) (by decide +kernel), mx_bg 57 (by decide +kernel) (by decide +kernel), ⟨by decide +kernel, by decide +kernel⟩, ⟨mx_bg 708 (by decide +kernel) (by decide +kernel), mx_bg 709 (by decide +kernel) (by decide +kernel)⟩⟩
theorem hX10_unrank : mx_hT mX10_unrank := ⟨okX10_unrank, mx_bg 755 (by decide +kernel) (by decide +kernel), mx_bg 57 (by decide +kernel) (by decide +kernel), ⟨by decide +kernel, by decide +kernel⟩, ⟨mx_bg 753 (by decide +kernel) (by decide +kernel), mx_bg 754 (by decide +kernel) (by decide +kernel)⟩⟩
theorem hX10_rank : mx_hT mX10_rank := ⟨okX10_rank, mx_bg 778 (by decide +kernel) (by decide +kernel), mx_bg 57 (by decide +kernel) (by decide +kernel), ⟨by decide +kernel, by decide +kernel⟩, ⟨mx_bg 776 (by decide +kernel) (by decide +kernel), mx_bg 777 (by decide +kernel) (by decide +kernel)⟩⟩
theorem hX10_growthRate : mx_hT mX10_growthRate := ⟨okX10_growthRate, mx_bg 794 (by decide +kernel) (by decide +kernel), mx_bg 57 (by decide +kernel) (by decide +kernel), ⟨by decide +kernel, by decide +kernel⟩, ⟨mx_bg 792 (by decide +kernel) (by decide +kernel), mx_bg 793 (by decide +kernel) (by decide +kernel)⟩⟩
theorem hX10_eigenvectorElement : mx_hT mX10_eigenvectorElement := ⟨okX10_eigenvectorElement, mx_bg 829 (by decide +kernel) (by decide +kernel), mx_bg 57 (by decide +kernel) (by decide +kernel), ⟨by decide +kernel, by decide +kernel⟩, ⟨mx_bg 827 (by decide +kernel) (by decide +kernel), mx_bg 828 (by decide +kernel) (by decide +kernel)⟩⟩
theorem hX10_eigenvectorBound : mx_hT mX10_eigenvectorBound := ⟨okX10_eigenvectorBound, mx_bg 865 (by decide +kernel) (by decide +kernel), mx_bg 57 (by decide +kernel) (by decide +kernel), ⟨by decide +kernel, by decide +kernel⟩, ⟨mx_bg 863 (by decide +kernel) (by decide +kernel), mx_bg 864 (by decide +kernel) (by decide +kernel)⟩⟩
theorem hX10_isEncoder : mx_hT mX10_isEncoder := ⟨okX10_isEncoder, mx_bg 873 (by decide +kernel) (by decide +kernel), mx_bg 57 (by decide +kernel) (by decide +kernel), ⟨by decide +kernel, by decide +kernel⟩, ⟨mx_bg 871 (by decide +kernel) (by decide +kernel), mx_bg 872 (by decide +kernel) (by decide +kernel)⟩⟩
theorem hX10_startEncoder : mx_hT mX10_startEncoder := ⟨okX10_startEncoder, mx_bg 881 (by decide +kernel) (by decide +kernel), mx_bg 57 (by decide +kernel) (by decide +kernel), ⟨by decide +kernel, by decide +kernel⟩, ⟨mx_bg 879 (by decide +kernel) (by decide +kernel), mx_bg 880 (by decide +kernel) (by decide +kernel)⟩⟩
theorem hX10_encode : mx_hT mX10_encode := ⟨okX10_encode, mx_bg 905 (by decide +kernel) (by decide +kernel), mx_bg 57 (by decide +kernel) (by decide +kernel), ⟨by decide +kernel, by decide +kernel⟩, ⟨mx_bg 903 (by decide +kernel) (by decide +kernel), mx_bg 904 (by decide +kernel) (by decide +kernel)⟩⟩
theorem hX10_encoderState : mx_hT mX10_encoderState := ⟨okX10_encoderState, mx_bg 916 (by decide +kernel) (by decide +kernel), mx_bg 57 (by decide +kernel) (by decide +kernel), ⟨by decide +kernel, by decide +kernel⟩, ⟨mx_bg 914 (by decide +kernel) (by decide +kernel), mx_bg 915 (by decide +kernel) (by decide +kernel)⟩⟩
theorem hX10_anticipation : mx_hT mX10_anticipation := ⟨okX10_anticipation, mx_bg 924 (by decide +kernel) (by decide +kernel), mx_bg 57 (by decide +kernel) (by decide +kernel), ⟨by decide +kernel, by decide +kernel⟩, ⟨mx_bg 922 (by decide +kernel) (by decide +kernel), mx_bg 923 (by decide +kernel) (by decide +kernel)⟩⟩
theorem hX10_decode : mx_hT mX10_decode := ⟨okX10_decode, mx_bg 950 (by decide +kernel) (by decide +kernel), mx_bg 57 (by decide +kernel) (by decide +kernel), ⟨by decide +kernel, by decide +kernel⟩, ⟨mx_bg 948 (by decide +kernel) (by decide +kernel), mx_bg 949 (by decide +kernel) (by decide +kernel)⟩⟩
theorem hX10_newArray : mx_hT mX10_newArray := ⟨okX10_newArray, mx_bg 982 (by decide +kernel) (by decide +kernel), mx_bg 57 (by decide +kernel) (by decide +kernel), ⟨by decide +kernel, by decide +kernel⟩, ⟨mx_bg 980 (by decide +kernel) (by decide +kernel), mx_bg 981 (by decide +kernel) (by decide +kernel)⟩⟩
theorem hX10_setElement : mx_hT mX10_setElement := ⟨okX10_setElement, mx_bg 995 (by decide +kernel) (by decide +kernel), mx_bg 57 (by decide +kernel) (by decide +kernel), ⟨by decide +kernel, by decide +kernel⟩, ⟨mx_bg 993 (by decide +kernel) (by decide +kernel), mx_bg 994 (by decide +kernel) (by decide +kernel)⟩⟩
theorem hX10_element : mx_hT mX10_element := ⟨okX10_element, mx_bg 1007 (by decide +kernel) (by decide +kernel), mx_bg 57 (by decide +kernel) (by decide +kernel), ⟨by decide +kernel, by decide +kernel⟩, ⟨mx_bg 1005 (by decide +kernel) (by decide +kernel), mx_bg 1006 (by decide +kernel) (by decide +kernel)⟩⟩
theorem hX10_firstDifference : mx_hT mX10_firstDifference := ⟨okX10_firstDifference, mx_bg 1012 (by decide +kernel) (by decide +kernel), mx_bg 57 (by decide +kernel) (by decide +kernel), ⟨by decide +kernel, by decide +kernel⟩, ⟨mx_bg 1010 (by decide +kernel) (by decide +kernel), mx_bg 1011 (by decide +kernel) (by decide +kernel)⟩⟩
theorem hX10_saveSnapshot : mx_hT mX10_saveSnapshot := ⟨okX10_saveSnapshot, mx_bg 1022 (by decide +kernel) (by decide +kernel), mx_bg 57 (by decide +kernel) (by decide +kernel), ⟨by decide +kernel, by decide +kernel⟩, ⟨mx_bg 1020 (by decide +kernel) (by decide +kernel), mx_bg 1021 (by decide +kernel) (by decide +kernel)⟩⟩
theorem hX10_restoreSnapshot : mx_hT mX10_restoreSnapshot := ⟨okX10_restoreSnapshot, mx_bg 1036 (by decide +kernel) (by decide +kernel), mx_bg 57 (by decide +kernel) (by decide +kernel), ⟨by decide +kernel, by decide +kernel⟩, ⟨mx_bg 1034 (by decide +kernel) (by decide +kernel), mx_bg 1035 (by decide +kernel) (by decide +kernel)⟩⟩
theorem hX10_isDataLength : mx_hT mX10_isDataLength := ⟨okX10_isDataLength, mx_bg 832 (by decide +kernel) (by decide +kernel), mx_bg 57 (by decide +kernel) (by decide +kernel), ⟨by decide +kernel, by decide +kernel⟩, mx_bg 831 (by decide +kernel) (by decide +kernel)⟩
theorem hX11_isIn : mx_hT mX11_isIn := ⟨okX11_isIn, mx_bg 1176 (by decide +kernel) (by decide +kernel), mx_bg 68 (by decide +kernel) (by decide +kernel), ⟨by decide +kernel, by decide +kernel⟩, mx_bg 1175 (by decide +kernel) (by decide +kernel)⟩
theorem hX11_isState : mx_hT mX11_isState := ⟨okX11_isState, mx_bg 1192 (by decide +kernel) (by decide +kernel), mx_bg 68 (by decide +kernel) (by decide +kernel), ⟨by decide +kernel, by decide +kernel⟩, ⟨mx_bg 1191 (by decide +kernel) (by decide +kernel), mx_bg 37 (by decide +kernel) (by decide +kernel)⟩⟩
theorem hX11_isEdge : mx_hT mX11_isEdge := ⟨okX11_isEdge, mx_bg 1200 (by decide +kernel) (by decide +kernel), mx_bg 68 (by decide +kernel) (by decide +kernel), ⟨by decide +kernel, by decide +kernel⟩, ⟨mx_bg 1199 (by decide +kernel) (by decide +kernel), mx_bg 38 (by decide +kernel) (by decide +kernel)⟩⟩
theorem hX11_lays : mx_hT mX11_lays := ⟨okX11_lays, mx_bg 1169 (by decide +kernel) (by decide +kernel), mx_bg 68 (by decide +kernel) (by decide +kernel), ⟨by decide +kernel, by decide +kernel⟩, ⟨mx_bg 1168 (by decide +kernel) (by decide +kernel), mx_bg 36 (by decide +kernel) (by decide +kernel)⟩⟩
theorem hX11_begins : mx_hT mX11_begins := ⟨okX11_begins, mx_bg 1165 (by decide +kernel) (by decide +kernel), mx_bg 68 (by decide +kernel) (by decide +kernel), ⟨by decide +kernel, by decide +kernel⟩, ⟨mx_bg 1164 (by decide +kernel) (by decide +kernel), mx_bg 35 (by decide +kernel) (by decide +kernel)⟩⟩
theorem hX11_loadRunLength : mx_hT mX11_loadRunLength := ⟨okX11_loadRunLength, mx_bg 1161 (by decide +kernel) (by decide +kernel), mx_bg 68 (by decide +kernel) (by decide +kernel), ⟨by decide +kernel, by decide +kernel⟩, ⟨mx_bg 1159 (by decide +kernel) (by decide +kernel), mx_bg 1160 (by decide +kernel) (by decide +kernel)⟩⟩
theorem hX11_loadCharge : mx_hT mX11_loadCharge := ⟨okX11_loadCharge, mx_bg 1173 (by decide +kernel) (by decide +kernel), mx_bg 68 (by decide +kernel) (by decide +kernel), ⟨by decide +kernel, by decide +kernel⟩, ⟨mx_bg 1171 (by decide +kernel) (by decide +kernel), mx_bg 1172 (by decide +kernel) (by decide +kernel)⟩⟩
theorem hX11_clear : mx_hT mX11_clear := ⟨okX11_clear, mx_bg 1180 (by decide +kernel) (by decide +kernel), mx_bg 68 (by decide +kernel) (by decide +kernel), ⟨by decide +kernel, by decide +kernel⟩, ⟨mx_bg 1178 (by decide +kernel) (by decide +kernel), mx_bg 1179 (by decide +kernel) (by decide +kernel)⟩⟩
theorem hX11_addState : mx_hT mX11_addState := ⟨okX11_addState, mx_bg 1184 (by decide +kernel) (by decide +kernel), mx_bg 68 (by decide +kernel) (by decide +kernel), ⟨by decide +kernel, by decide +kernel⟩, ⟨mx_bg 1182 (by decide +kernel) (by decide +kernel), mx_bg 1183 (by decide +kernel) (by decide +kernel)⟩⟩
theorem hX11_addEdge : mx_hT mX11_addEdge := ⟨okX11_addEdge, mx_bg 1188 (by decide +kernel) (by decide +kernel), mx_bg 68 (by decide +kernel) (by decide +kernel), ⟨by decide +kernel, by decide +kernel⟩, ⟨mx_bg 1186 (by decide +kernel) (by decide +kernel), mx_bg 1187 (by decide +kernel) (by decide +kernel)⟩⟩
theorem hX11_removeEdge : mx_hT mX11_removeEdge := ⟨okX11_removeEdge, mx_bg 1196 (by decide +kernel) (by decide +kernel), mx_bg 68 (by decide +kernel) (by decide +kernel), ⟨by decide +kernel, by decide +kernel⟩, ⟨mx_bg 1194 (by decide +kernel) (by decide +kernel), mx_bg 1195 (by decide +kernel) (by decide +kernel)⟩⟩
theorem hX11_stateCount : mx_hT mX11_stateCount := ⟨okX11_stateCount, mx_bg 1204 (by decide +kernel) (by decide +kernel), mx_bg 68 (by decide +kernel) (by decide +kernel), ⟨by decide +kernel, by decide +kernel⟩, ⟨mx_bg 1202 (by decide +kernel) (by decide +kernel), mx_bg 1203 (by decide +kernel) (by decide +kernel)⟩⟩
theorem hX11_edgeCount : mx_hT mX11_edgeCount := ⟨okX11_edgeCount, mx_bg 1208 (by decide +kernel) (by decide +kernel), mx_bg 68 (by decide +kernel) (by decide +kernel), ⟨by decide +kernel, by decide +kernel⟩, ⟨mx_bg 1206 (by decide +kernel) (by decide +kernel), mx_bg 1207 (by decide +kernel) (by decide +kernel)⟩⟩
theorem hX11_labelLength : mx_hT mX11_labelLength := ⟨okX11_labelLength, mx_bg 1212 (by decide +kernel) (by decide +kernel), mx_bg 68 (by decide +kernel) (by decide +kernel), ⟨by decide +kernel, by decide +kernel⟩, ⟨mx_bg 1210 (by decide +kernel) (by decide +kernel), mx_bg 1211 (by decide +kernel) (by decide +kernel)⟩⟩
theorem hX11_edgeStart : mx_hT mX11_edgeStart := ⟨okX11_edgeStart, mx_bg 1216 (by decide +kernel) (by decide +kernel), mx_bg 68 (by decide +kernel) (by decide +kernel), ⟨by decide +kernel, by decide +kernel⟩, ⟨mx_bg 1214 (by decide +kernel) (by decide +kernel), mx_bg 1215 (by decide +kernel) (by decide +kernel)⟩⟩
theorem hX11_edgeLabel : mx_hT mX11_edgeLabel := ⟨okX11_edgeLabel, mx_bg 1220 (by decide +kernel) (by decide +kernel), mx_bg 68 (by decide +kernel) (by decide +kernel), ⟨by decide +kernel, by decide +kernel⟩, ⟨mx_bg 1218 (by decide +kernel) (by decide +kernel), mx_bg 1219 (by decide +kernel) (by decide +kernel)⟩⟩
theorem hX11_edgeEnd : mx_hT mX11_edgeEnd := ⟨okX11_edgeEnd, mx_bg 1224 (by decide +kernel) (by decide +kernel), mx_bg 68 (by decide +kernel) (by decide +kernel), ⟨by decide +kernel, by decide +kernel⟩, ⟨mx_bg 1222 (by decide +kernel) (by decide +kernel), mx_bg 1223 (by decide +kernel) (by decide +kernel)⟩⟩
theorem hX11_power : mx_hT mX11_power := ⟨okX11_power, mx_bg 1228 (by decide +kernel) (by decide +kernel), mx_bg 68 (by decide +kernel) (by decide +kernel), ⟨by decide +kernel, by decide +kernel⟩, ⟨mx_bg 1226 (by decide +kernel) (by decide +kernel), mx_bg 1227 (by decide +kernel) (by decide +kernel)⟩⟩
theorem hX11_walks : mx_hT mX11_walks := ⟨okX11_walks, mx_bg 1233 (by decide +kernel) (by decide +kernel), mx_bg 68 (by decide +kernel) (by decide +kernel), ⟨by decide +kernel, by decide +kernel⟩, ⟨mx_bg 1232 (by decide +kernel) (by decide +kernel), mx_bg 39 (by decide +kernel) (by decide +kernel)⟩⟩
theorem hX11_edgesOf : mx_hT mX11_edgesOf := ⟨okX11_edgesOf, mx_bg 1241 (by decide +kernel) (by decide +kernel), mx_bg 68 (by decide +kernel) (by decide +kernel), ⟨by decide +kernel, by decide +kernel⟩, ⟨mx_bg 1240 (by decide +kernel) (by decide +kernel), mx_bg 40 (by decide +kernel) (by decide +kernel)⟩⟩
theorem hX11_split : mx_hT mX11_split := ⟨okX11_split, mx_bg 1237 (by decide +kernel) (by decide +kernel), mx_bg 68 (by decide +kernel) (by decide +kernel), ⟨by decide +kernel, by decide +kernel⟩, ⟨mx_bg 1235 (by decide +kernel) (by decide +kernel), mx_bg 1236 (by decide +kernel) (by decide +kernel)⟩⟩
theorem hX11_isDeterministicNow : mx_hT mX11_isDeterministicNow := ⟨okX11_isDeterministicNow, mx_bg 1249 (by decide +kernel) (by decide +kernel), mx_bg 68 (by decide +kernel) (by decide +kernel), ⟨by decide +kernel, by decide +kernel⟩, ⟨mx_bg 1248 (by decide +kernel) (by decide +kernel), mx_bg 41 (by decide +kernel) (by decide +kernel)⟩⟩
theorem hX11_isDeterministic : mx_hT mX11_isDeterministic := ⟨okX11_isDeterministic, mx_bg 1245 (by decide +kernel) (by decide +kernel), mx_bg 68 (by decide +kernel) (by decide +kernel), ⟨by decide +kernel, by decide +kernel⟩, ⟨mx_bg 1243 (by decide +kernel) (by decide +kernel), mx_bg 1244 (by decide +kernel) (by decide +kernel)⟩⟩
theorem hX11_isIrreducible : mx_hT mX11_isIrreducible := ⟨okX11_isIrreducible, mx_bg 1253 (by decide +kernel) (by decide +kernel), mx_bg 68 (by decide +kernel) (by decide +kernel), ⟨by decide +kernel, by decide +kernel⟩, ⟨mx_bg 1251 (by decide +kernel) (by decide +kernel), mx_bg 1252 (by decide +kernel) (by decide +kernel)⟩⟩
theorem hX11_appendCharacter : mx_hT mX11_appendCharacter := ⟨okX11_appendCharacter, mx_bg 1257 (by decide +kernel) (by decide +kernel), mx_bg 68 (by decide +kernel) (by decide +kernel), ⟨by decide +kernel, by decide +kernel⟩, ⟨mx_bg 1255 (by decide +kernel) (by decide +kernel), mx_bg 1256 (by decide +kernel) (by decide +kernel)⟩⟩
theorem hX11_goes : mx_hT mX11_goes := ⟨okX11_goes, mx_bg 1267 (by decide +kernel) (by decide +kernel), mx_bg 68 (by decide +kernel) (by decide +kernel), ⟨by decide +kernel, by decide +kernel⟩, ⟨mx_bg 1266 (by decide +kernel) (by decide +kernel), mx_bg 42 (by decide +kernel) (by decide +kernel)⟩⟩
theorem hX11_parseConstraint : mx_hT mX11_parseConstraint := ⟨okX11_parseConstraint, mx_bg 1261 (by decide +kernel) (by decide +kernel), mx_bg 68 (by decide +kernel) (by decide +kernel), ⟨by decide +kernel, by decide +kernel⟩, ⟨mx_bg 1259 (by decide +kernel) (by decide +kernel), mx_bg 1260 (by decide +kernel) (by decide +kernel)⟩⟩
theorem hX11_appendBit : mx_hT mX11_appendBit := ⟨okX11_appendBit, mx_bg 1275 (by decide +kernel) (by decide +kernel), mx_bg 68 (by decide +kernel) (by decide +kernel), ⟨by decide +kernel, by decide +kernel⟩, ⟨mx_bg 1273 (by decide +kernel) (by decide +kernel), mx_bg 1274 (by decide +kernel) (by decide +kernel)⟩⟩
theorem hX11_clearWord : mx_hT mX11_clearWord := ⟨okX11_clearWord, mx_bg 1279 (by decide +kernel) (by decide +kernel), mx_bg 68 (by decide +kernel) (by decide +kernel), ⟨by decide +kernel, by decide +kernel⟩, ⟨mx_bg 1277 (by decide +kernel) (by decide +kernel), mx_bg 1278 (by decide +kernel) (by decide +kernel)⟩⟩
theorem hX11_wordLength : mx_hT mX11_wordLength := ⟨okX11_wordLength, mx_bg 1283 (by decide +kernel) (by decide +kernel), mx_bg 68 (by decide +kernel) (by decide +kernel), ⟨by decide +kernel, by decide +kernel⟩, ⟨mx_bg 1281 (by decide +kernel) (by decide +kernel), mx_bg 1282 (by decide +kernel) (by decide +kernel)⟩⟩
theorem hX11_wordBit : mx_hT mX11_wordBit := ⟨okX11_wordBit, mx_bg 1287 (by decide +kernel) (by decide +kernel), mx_bg 68 (by decide +kernel) (by decide +kernel), ⟨by decide +kernel, by decide +kernel⟩, ⟨mx_bg 1285 (by decide +kernel) (by decide +kernel), mx_bg 1286 (by decide +kernel) (by decide +kernel)⟩⟩
theorem hX11_labelAt : mx_hT mX11_labelAt := ⟨okX11_labelAt, mx_bg 1295 (by decide +kernel) (by decide +kernel), mx_bg 68 (by decide +kernel) (by decide +kernel), ⟨by decide +kernel, by decide +kernel⟩, ⟨mx_bg 1294 (by decide +kernel) (by decide +kernel), mx_bg 43 (by decide +kernel) (by decide +kernel)⟩⟩
theorem hX11_after : mx_hT mX11_after := ⟨okX11_after, mx_bg 1299 (by decide +kernel) (by decide +kernel), mx_bg 68 (by decide +kernel) (by decide +kernel), ⟨by decide +kernel, by decide +kernel⟩, ⟨mx_bg 1298 (by decide +kernel) (by decide +kernel), mx_bg 44 (by decide +kernel) (by decide +kernel)⟩⟩
theorem hX11_firstViolation : mx_hT mX11_firstViolation := ⟨okX11_firstViolation, mx_bg 1291 (by decide +kernel) (by decide +kernel), mx_bg 68 (by decide +kernel) (by decide +kernel), ⟨by decide +kernel, by decide +kernel⟩, ⟨mx_bg 1289 (by decide +kernel) (by decide +kernel), mx_bg 1290 (by decide +kernel) (by decide +kernel)⟩⟩
theorem hX11_ones : mx_hT mX11_ones := ⟨okX11_ones, mx_bg 1307 (by decide +kernel) (by decide +kernel), mx_bg 68 (by decide +kernel) (by decide +kernel), ⟨by decide +kernel, by decide +kernel⟩, ⟨mx_bg 1306 (by decide +kernel) (by decide +kernel), mx_bg 45 (by decide +kernel) (by decide +kernel)⟩⟩
theorem hX11_balance : mx_hT mX11_balance := ⟨okX11_balance, mx_bg 1303 (by decide +kernel) (by decide +kernel), mx_bg 68 (by decide +kernel) (by decide +kernel), ⟨by decide +kernel, by decide +kernel⟩, ⟨mx_bg 1301 (by decide +kernel) (by decide +kernel), mx_bg 1302 (by decide +kernel) (by decide +kernel)⟩⟩
theorem hX11_invert : mx_hT mX11_invert := ⟨okX11_invert, mx_bg 1311 (by decide +kernel) (by decide +kernel), mx_bg 68 (by decide +kernel) (by decide +kernel), ⟨by decide +kernel, by decide +kernel⟩, ⟨mx_bg 1309 (by decide +kernel) (by decide +kernel), mx_bg 1310 (by decide +kernel) (by decide +kernel)⟩⟩
theorem hX11_onesOf : mx_hT mX11_onesOf := ⟨okX11_onesOf, mx_bg 1330 (by decide +kernel) (by decide +kernel), mx_bg 68 (by decide +kernel) (by decide +kernel), ⟨by decide +kernel, by decide +kernel⟩, mx_bg 1329 (by decide +kernel) (by decide +kernel)⟩
theorem hX11_at : mx_hT mX11_at := ⟨okX11_at, mx_bg 1327 (by decide +kernel) (by decide +kernel), mx_bg 68 (by decide +kernel) (by decide +kernel), ⟨by decide +kernel, by decide +kernel⟩, ⟨mx_bg 1326 (by decide +kernel) (by decide +kernel), mx_bg 48 (by decide +kernel) (by decide +kernel)⟩⟩
theorem hX11_counts : mx_hT mX11_counts := ⟨okX11_counts, mx_bg 1323 (by decide +kernel) (by decide +kernel), mx_bg 68 (by decide +kernel) (by decide +kernel), ⟨by decide +kernel, by decide +kernel⟩, ⟨mx_bg 1322 (by decide +kernel) (by decide +kernel), mx_bg 47 (by decide +kernel) (by decide +kernel)⟩⟩
theorem hX11_number : mx_hT mX11_number := ⟨okX11_number, mx_bg 1334 (by decide +kernel) (by decide +kernel), mx_bg 68 (by decide +kernel) (by decide +kernel), ⟨by decide +kernel, by decide +kernel⟩, ⟨mx_bg 1333 (by decide +kernel) (by decide +kernel), mx_bg 49 (by decide +kernel) (by decide +kernel)⟩⟩
theorem hX11_hinders : mx_hT mX11_hinders := ⟨okX11_hinders, mx_bg 1319 (by decide +kernel) (by decide +kernel), mx_bg 68 (by decide +kernel) (by decide +kernel), ⟨by decide +kernel, by decide +kernel⟩, ⟨mx_bg 1318 (by decide +kernel) (by decide +kernel), mx_bg 46 (by decide +kernel) (by decide +kernel)⟩⟩
theorem hX11_countWords : mx_hT mX11_countWords := ⟨okX11_countWords, mx_bg 1315 (by decide +kernel) (by decide +kernel), mx_bg 68 (by decide +kernel) (by decide +kernel), ⟨by decide +kernel, by decide +kernel⟩, ⟨mx_bg 1313 (by decide +kernel) (by decide +kernel), mx_bg 1314 (by decide +kernel) (by decide +kernel)⟩⟩
theorem hX11_edgeBy : mx_hT mX11_edgeBy := ⟨okX11_edgeBy, mx_bg 1342 (by decide +kernel) (by decide +kernel), mx_bg 68 (by decide +kernel) (by decide +kernel), ⟨by decide +kernel, by decide +kernel⟩, ⟨mx_bg 1341 (by decide +kernel) (by decide +kernel), mx_bg 50 (by decide +kernel) (by decide +kernel)⟩⟩
theorem hX11_unrank : mx_hT mX11_unrank := ⟨okX11_unrank, mx_bg 1338 (by decide +kernel) (by decide +kernel), mx_bg 68 (by decide +kernel) (by decide +kernel), ⟨by decide +kernel, by decide +kernel⟩, ⟨mx_bg 1336 (by decide +kernel) (by decide +kernel), mx_bg 1337 (by decide +kernel) (by decide +kernel)⟩⟩
theorem hX11_rank : mx_hT mX11_rank := ⟨okX11_rank, mx_bg 1347 (by decide +kernel) (by decide +kernel), mx_bg 68 (by decide +kernel) (by decide +kernel), ⟨by decide +kernel, by decide +kernel⟩, ⟨mx_bg 1345 (by decide +kernel) (by decide +kernel), mx_bg 1346 (by decide +kernel) (by decide +kernel)⟩⟩
theorem hX11_growthRate : mx_hT mX11_growthRate := ⟨okX11_growthRate, mx_bg 1356 (by decide +kernel) (by decide +kernel), mx_bg 68 (by decide +kernel) (by decide +kernel), ⟨by decide +kernel, by decide +kernel⟩, ⟨mx_bg 1354 (by decide +kernel) (by decide +kernel), mx_bg 1355 (by decide +kernel) (by decide +kernel)⟩⟩
theorem hX11_bound : mx_hT mX11_bound := ⟨okX11_bound, mx_bg 1374 (by decide +kernel) (by decide +kernel), mx_bg 68 (by decide +kernel) (by decide +kernel), ⟨by decide +kernel, by decide +kernel⟩, ⟨mx_bg 1373 (by decide +kernel) (by decide +kernel), mx_bg 51 (by decide +kernel) (by decide +kernel)⟩⟩
theorem hX11_eigenvectorElement : mx_hT mX11_eigenvectorElement := ⟨okX11_eigenvectorElement, mx_bg 1370 (by decide +kernel) (by decide +kernel), mx_bg 68 (by decide +kernel) (by decide +kernel), ⟨by decide +kernel, by decide +kernel⟩, ⟨mx_bg 1368 (by decide +kernel) (by decide +kernel), mx_bg 1369 (by decide +kernel) (by decide +kernel)⟩⟩
theorem hX11_eigenvectorBound : mx_hT mX11_eigenvectorBound := ⟨okX11_eigenvectorBound, mx_bg 1378 (by decide +kernel) (by decide +kernel), mx_bg 68 (by decide +kernel) (by decide +kernel), ⟨by decide +kernel, by decide +kernel⟩, ⟨mx_bg 1376 (by decide +kernel) (by decide +kernel), mx_bg 1377 (by decide +kernel) (by decide +kernel)⟩⟩
theorem hX11_isEncoderFor : mx_hT mX11_isEncoderFor := ⟨okX11_isEncoderFor, mx_bg 1386 (by decide +kernel) (by decide +kernel), mx_bg 68 (by decide +kernel) (by decide +kernel), ⟨by decide +kernel, by decide +kernel⟩, ⟨mx_bg 1385 (by decide +kernel) (by decide +kernel), mx_bg 52 (by decide +kernel) (by decide +kernel)⟩⟩
theorem hX11_isEncoder : mx_hT mX11_isEncoder := ⟨okX11_isEncoder, mx_bg 1382 (by decide +kernel) (by decide +kernel), mx_bg 68 (by decide +kernel) (by decide +kernel), ⟨by decide +kernel, by decide +kernel⟩, ⟨mx_bg 1380 (by decide +kernel) (by decide +kernel), mx_bg 1381 (by decide +kernel) (by decide +kernel)⟩⟩
theorem hX11_startEncoder : mx_hT mX11_startEncoder := ⟨okX11_startEncoder, mx_bg 1390 (by decide +kernel) (by decide +kernel), mx_bg 68 (by decide +kernel) (by decide +kernel), ⟨by decide +kernel, by decide +kernel⟩, ⟨mx_bg 1388 (by decide +kernel) (by decide +kernel), mx_bg 1389 (by decide +kernel) (by decide +kernel)⟩⟩
theorem hX11_data : mx_hT mX11_data := ⟨okX11_data, mx_bg 1398 (by decide +kernel) (by decide +kernel), mx_bg 68 (by decide +kernel) (by decide +kernel), ⟨by decide +kernel, by decide +kernel⟩, ⟨mx_bg 1397 (by decide +kernel) (by decide +kernel), mx_bg 53 (by decide +kernel) (by decide +kernel)⟩⟩
theorem hX11_encode : mx_hT mX11_encode := ⟨okX11_encode, mx_bg 1394 (by decide +kernel) (by decide +kernel), mx_bg 68 (by decide +kernel) (by decide +kernel), ⟨by decide +kernel, by decide +kernel⟩, ⟨mx_bg 1392 (by decide +kernel) (by decide +kernel), mx_bg 1393 (by decide +kernel) (by decide +kernel)⟩⟩
theorem hX11_encoderState : mx_hT mX11_encoderState := ⟨okX11_encoderState, mx_bg 1402 (by decide +kernel) (by decide +kernel), mx_bg 68 (by decide +kernel) (by decide +kernel), ⟨by decide +kernel, by decide +kernel⟩, ⟨mx_bg 1400 (by decide +kernel) (by decide +kernel), mx_bg 1401 (by decide +kernel) (by decide +kernel)⟩⟩
theorem hX11_pairs : mx_hT mX11_pairs := ⟨okX11_pairs, mx_bg 1410 (by decide +kernel) (by decide +kernel), mx_bg 68 (by decide +kernel) (by decide +kernel), ⟨by decide +kernel, by decide +kernel⟩, ⟨mx_bg 1409 (by decide +kernel) (by decide +kernel), mx_bg 54 (by decide +kernel) (by decide +kernel)⟩⟩
theorem hX11_anticipation : mx_hT mX11_anticipation := ⟨okX11_anticipation, mx_bg 1406 (by decide +kernel) (by decide +kernel), mx_bg 68 (by decide +kernel) (by decide +kernel), ⟨by decide +kernel, by decide +kernel⟩, ⟨mx_bg 1404 (by decide +kernel) (by decide +kernel), mx_bg 1405 (by decide +kernel) (by decide +kernel)⟩⟩
theorem hX11_decode : mx_hT mX11_decode := ⟨okX11_decode, mx_bg 1414 (by decide +kernel) (by decide +kernel), mx_bg 68 (by decide +kernel) (by decide +kernel), ⟨by decide +kernel, by decide +kernel⟩, ⟨mx_bg 1412 (by decide +kernel) (by decide +kernel), mx_bg 1413 (by decide +kernel) (by decide +kernel)⟩⟩
theorem hX11_encoded : mx_hT mX11_encoded := ⟨okX11_encoded, mx_bg 1418 (by decide +kernel) (by decide +kernel), mx_bg 68 (by decide +kernel) (by decide +kernel), ⟨by decide +kernel, by decide +kernel⟩, ⟨mx_bg 1417 (by decide +kernel) (by decide +kernel), mx_bg 55 (by decide +kernel) (by decide +kernel)⟩⟩
theorem hX11_isSlot : mx_hT mX11_isSlot := ⟨okX11_isSlot, mx_bg 1425 (by decide +kernel) (by decide +kernel), mx_bg 68 (by decide +kernel) (by decide +kernel), ⟨by decide +kernel, by decide +kernel⟩, mx_bg 1424 (by decide +kernel) (by decide +kernel)⟩
theorem hX11_newArray : mx_hT mX11_newArray := ⟨okX11_newArray, mx_bg 1422 (by decide +kernel) (by decide +kernel), mx_bg 68 (by decide +kernel) (by decide +kernel), ⟨by decide +kernel, by decide +kernel⟩, ⟨mx_bg 1420 (by decide +kernel) (by decide +kernel), mx_bg 1421 (by decide +kernel) (by decide +kernel)⟩⟩
theorem hX11_setElement : mx_hT mX11_setElement := ⟨okX11_setElement, mx_bg 1429 (by decide +kernel) (by decide +kernel), mx_bg 68 (by decide +kernel) (by decide +kernel), ⟨by decide +kernel, by decide +kernel⟩, ⟨mx_bg 1427 (by decide +kernel) (by decide +kernel), mx_bg 1428 (by decide +kernel) (by decide +kernel)⟩⟩
theorem hX11_element : mx_hT mX11_element := ⟨okX11_element, mx_bg 1433 (by decide +kernel) (by decide +kernel), mx_bg 68 (by decide +kernel) (by decide +kernel), ⟨by decide +kernel, by decide +kernel⟩, ⟨mx_bg 1431 (by decide +kernel) (by decide +kernel), mx_bg 1432 (by decide +kernel) (by decide +kernel)⟩⟩
theorem hX11_firstDifference : mx_hT mX11_firstDifference := ⟨okX11_firstDifference, mx_bg 1437 (by decide +kernel) (by decide +kernel), mx_bg 68 (by decide +kernel) (by decide +kernel), ⟨by decide +kernel, by decide +kernel⟩, ⟨mx_bg 1435 (by decide +kernel) (by decide +kernel), mx_bg 1436 (by decide +kernel) (by decide +kernel)⟩⟩
theorem hX11_copies : mx_hT mX11_copies := ⟨okX11_copies, mx_bg 1444 (by decide +kernel) (by decide +kernel), mx_bg 68 (by decide +kernel) (by decide +kernel), ⟨by decide +kernel, by decide +kernel⟩, mx_bg 1443 (by decide +kernel) (by decide +kernel)⟩
theorem hX11_saveSnapshot : mx_hT mX11_saveSnapshot := ⟨okX11_saveSnapshot, mx_bg 1441 (by decide +kernel) (by decide +kernel), mx_bg 68 (by decide +kernel) (by decide +kernel), ⟨by decide +kernel, by decide +kernel⟩, ⟨mx_bg 1439 (by decide +kernel) (by decide +kernel), mx_bg 1440 (by decide +kernel) (by decide +kernel)⟩⟩
theorem hX11_restoreSnapshot : mx_hT mX11_restoreSnapshot := ⟨okX11_restoreSnapshot, mx_bg 1448 (by decide +kernel) (by decide +kernel), mx_bg 68 (by decide +kernel) (by decide +kernel), ⟨by decide +kernel, by decide +kernel⟩, ⟨mx_bg 1446 (by decide +kernel) (by decide +kernel), mx_bg 1447 (by decide +kernel) (by decide +kernel)⟩⟩
theorem hX0_smallest : mx_hT mX0_smallest := ⟨okX0_smallest, mx_bg 928 (by decide +kernel) (by decide +kernel), mx_bg 66 (by decide +kernel) (by decide +kernel), ⟨by decide +kernel, by decide +kernel⟩, ⟨mx_bg 926 (by decide +kernel) (by decide +kernel), mx_bg 927 (by decide +kernel) (by decide +kernel)⟩⟩
theorem hX0_leavesFirstEdgeOpen : mx_hT mX0_leavesFirstEdgeOpen := ⟨okX0_leavesFirstEdgeOpen, mx_bg 933 (by decide +kernel) (by decide +kernel), mx_bg 66 (by decide +kernel) (by decide +kernel), ⟨by decide +kernel, by decide +kernel⟩, ⟨mx_bg 932 (by decide +kernel) (by decide +kernel), mx_bg 28 (by decide +kernel) (by decide +kernel)⟩⟩
theorem hX0_lengthenPaths : mx_hT mX0_lengthenPaths := ⟨okX0_lengthenPaths, mx_bg 945 (by decide +kernel) (by decide +kernel), mx_bg 66 (by decide +kernel) (by decide +kernel), ⟨by decide +kernel, by decide +kernel⟩, ⟨mx_bg 944 (by decide +kernel) (by decide +kernel), mx_bg 30 (by decide +kernel) (by decide +kernel)⟩⟩
theorem hX0_goTogether : mx_hT mX0_goTogether := ⟨okX0_goTogether, mx_bg 939 (by decide +kernel) (by decide +kernel), mx_bg 66 (by decide +kernel) (by decide +kernel), ⟨by decide +kernel, by decide +kernel⟩, ⟨mx_bg 938 (by decide +kernel) (by decide +kernel), mx_bg 29 (by decide +kernel) (by decide +kernel)⟩⟩
theorem hX1_append : mx_hT mX1_append := ⟨okX1_append, mx_bg 544 (by decide +kernel) (by decide +kernel), mx_bg 60 (by decide +kernel) (by decide +kernel), ⟨by decide +kernel, by decide +kernel⟩, ⟨mx_bg 542 (by decide +kernel) (by decide +kernel), mx_bg 543 (by decide +kernel) (by decide +kernel)⟩⟩
theorem hX1_applyTo : mx_hT mX1_applyTo := ⟨okX1_applyTo, mx_bg 552 (by decide +kernel) (by decide +kernel), mx_bg 60 (by decide +kernel) (by decide +kernel), ⟨by decide +kernel, by decide +kernel⟩, ⟨mx_bg 550 (by decide +kernel) (by decide +kernel), mx_bg 551 (by decide +kernel) (by decide +kernel)⟩⟩
theorem hX1_loadNamed : mx_hT mX1_loadNamed := ⟨okX1_loadNamed, mx_bg 556 (by decide +kernel) (by decide +kernel), mx_bg 60 (by decide +kernel) (by decide +kernel), ⟨by decide +kernel, by decide +kernel⟩, ⟨mx_bg 555 (by decide +kernel) (by decide +kernel), mx_bg 10 (by decide +kernel) (by decide +kernel)⟩⟩
theorem hX1_matchedBy : mx_hT mX1_matchedBy := ⟨okX1_matchedBy, mx_bg 561 (by decide +kernel) (by decide +kernel), mx_bg 60 (by decide +kernel) (by decide +kernel), ⟨by decide +kernel, by decide +kernel⟩, ⟨mx_bg 560 (by decide +kernel) (by decide +kernel), mx_bg 11 (by decide +kernel) (by decide +kernel)⟩⟩
theorem hX1_fits : mx_hT mX1_fits := ⟨okX1_fits, mx_bg 613 (by decide +kernel) (by decide +kernel), mx_bg 60 (by decide +kernel) (by decide +kernel), ⟨by decide +kernel, by decide +kernel⟩, mx_bg 612 (by decide +kernel) (by decide +kernel)⟩
theorem hX1_digitAt : mx_hT mX1_digitAt := ⟨okX1_digitAt, mx_bg 618 (by decide +kernel) (by decide +kernel), mx_bg 60 (by decide +kernel) (by decide +kernel), ⟨by decide +kernel, by decide +kernel⟩, ⟨mx_bg 617 (by decide +kernel) (by decide +kernel), mx_bg 12 (by decide +kernel) (by decide +kernel)⟩⟩
theorem hX2_forget : mx_hT mX2_forget := ⟨okX2_forget, mx_bg 355 (by decide +kernel) (by decide +kernel), mx_bg 64 (by decide +kernel) (by decide +kernel), ⟨by decide +kernel, by decide +kernel⟩, ⟨mx_bg 353 (by decide +kernel) (by decide +kernel), mx_bg 354 (by decide +kernel) (by decide +kernel)⟩⟩
theorem hX2_find : mx_hT mX2_find := ⟨okX2_find, mx_bg 837 (by decide +kernel) (by decide +kernel), mx_bg 64 (by decide +kernel) (by decide +kernel), ⟨by decide +kernel, by decide +kernel⟩, ⟨mx_bg 835 (by decide +kernel) (by decide +kernel), mx_bg 836 (by decide +kernel) (by decide +kernel)⟩⟩
theorem hX2_foundBound : mx_hT mX2_foundBound := ⟨okX2_foundBound, mx_bg 869 (by decide +kernel) (by decide +kernel), mx_bg 64 (by decide +kernel) (by decide +kernel), ⟨by decide +kernel, by decide +kernel⟩, ⟨mx_bg 867 (by decide +kernel) (by decide +kernel), mx_bg 868 (by decide +kernel) (by decide +kernel)⟩⟩
theorem hX2_foundElement : mx_hT mX2_foundElement := ⟨okX2_foundElement, mx_bg 861 (by decide +kernel) (by decide +kernel), mx_bg 64 (by decide +kernel) (by decide +kernel), ⟨by decide +kernel, by decide +kernel⟩, ⟨mx_bg 859 (by decide +kernel) (by decide +kernel), mx_bg 860 (by decide +kernel) (by decide +kernel)⟩⟩
theorem hX2_isNumber : mx_hT mX2_isNumber := ⟨okX2_isNumber, mx_bg 841 (by decide +kernel) (by decide +kernel), mx_bg 64 (by decide +kernel) (by decide +kernel), ⟨by decide +kernel, by decide +kernel⟩, ⟨mx_bg 840 (by decide +kernel) (by decide +kernel), mx_bg 22 (by decide +kernel) (by decide +kernel)⟩⟩
theorem hX2_smallestBound : mx_hT mX2_smallestBound := ⟨okX2_smallestBound, mx_bg 845 (by decide +kernel) (by decide +kernel), mx_bg 64 (by decide +kernel) (by decide +kernel), ⟨by decide +kernel, by decide +kernel⟩, ⟨mx_bg 844 (by decide +kernel) (by decide +kernel), mx_bg 23 (by decide +kernel) (by decide +kernel)⟩⟩
theorem hX2_settle : mx_hT mX2_settle := ⟨okX2_settle, mx_bg 850 (by decide +kernel) (by decide +kernel), mx_bg 64 (by decide +kernel) (by decide +kernel), ⟨by decide +kernel, by decide +kernel⟩, ⟨mx_bg 849 (by decide +kernel) (by decide +kernel), mx_bg 24 (by decide +kernel) (by decide +kernel)⟩⟩
theorem hX2_lower : mx_hT mX2_lower := ⟨okX2_lower, mx_bg 854 (by decide +kernel) (by decide +kernel), mx_bg 64 (by decide +kernel) (by decide +kernel), ⟨by decide +kernel, by decide +kernel⟩, ⟨mx_bg 853 (by decide +kernel) (by decide +kernel), mx_bg 25 (by decide +kernel) (by decide +kernel)⟩⟩
theorem hX3_turnOff : mx_hT mX3_turnOff := ⟨okX3_turnOff, mx_bg 351 (by decide +kernel) (by decide +kernel), mx_bg 65 (by decide +kernel) (by decide +kernel), ⟨by decide +kernel, by decide +kernel⟩, ⟨mx_bg 349 (by decide +kernel) (by decide +kernel), mx_bg 350 (by decide +kernel) (by decide +kernel)⟩⟩
theorem hX3_turnOn : mx_hT mX3_turnOn := ⟨okX3_turnOn, mx_bg 885 (by decide +kernel) (by decide +kernel), mx_bg 65 (by decide +kernel) (by decide +kernel), ⟨by decide +kernel, by decide +kernel⟩, ⟨mx_bg 883 (by decide +kernel) (by decide +kernel), mx_bg 884 (by decide +kernel) (by decide +kernel)⟩⟩
theorem hX3_orderEdges : mx_hT mX3_orderEdges := ⟨okX3_orderEdges, mx_bg 891 (by decide +kernel) (by decide +kernel), mx_bg 65 (by decide +kernel) (by decide +kernel), ⟨by decide +kernel, by decide +kernel⟩, ⟨mx_bg 890 (by decide +kernel) (by decide +kernel), mx_bg 26 (by decide +kernel) (by decide +kernel)⟩⟩
theorem hX3_giveDataWord : mx_hT mX3_giveDataWord := ⟨okX3_giveDataWord, mx_bg 900 (by decide +kernel) (by decide +kernel), mx_bg 65 (by decide +kernel) (by decide +kernel), ⟨by decide +kernel, by decide +kernel⟩, ⟨mx_bg 899 (by decide +kernel) (by decide +kernel), mx_bg 27 (by decide +kernel) (by decide +kernel)⟩⟩
theorem hX3_state : mx_hT mX3_state := ⟨okX3_state, mx_bg 920 (by decide +kernel) (by decide +kernel), mx_bg 65 (by decide +kernel) (by decide +kernel), ⟨by decide +kernel, by decide +kernel⟩, ⟨mx_bg 918 (by decide +kernel) (by decide +kernel), mx_bg 919 (by decide +kernel) (by decide +kernel)⟩⟩
theorem hX3_write : mx_hT mX3_write := ⟨okX3_write, mx_bg 909 (by decide +kernel) (by decide +kernel), mx_bg 65 (by decide +kernel) (by decide +kernel), ⟨by decide +kernel, by decide +kernel⟩, ⟨mx_bg 907 (by decide +kernel) (by decide +kernel), mx_bg 908 (by decide +kernel) (by decide +kernel)⟩⟩
theorem hX3_read : mx_hT mX3_read := ⟨okX3_read, mx_bg 954 (by decide +kernel) (by decide +kernel), mx_bg 65 (by decide +kernel) (by decide +kernel), ⟨by decide +kernel, by decide +kernel⟩, ⟨mx_bg 952 (by decide +kernel) (by decide +kernel), mx_bg 953 (by decide +kernel) (by decide +kernel)⟩⟩
theorem hX3_statesAfter : mx_hT mX3_statesAfter := ⟨okX3_statesAfter, mx_bg 965 (by decide +kernel) (by decide +kernel), mx_bg 65 (by decide +kernel) (by decide +kernel), ⟨by decide +kernel, by decide +kernel⟩, ⟨mx_bg 964 (by decide +kernel) (by decide +kernel), mx_bg 31 (by decide +kernel) (by decide +kernel)⟩⟩
theorem hX3_statesBefore : mx_hT mX3_statesBefore := ⟨okX3_statesBefore, mx_bg 974 (by decide +kernel) (by decide +kernel), mx_bg 65 (by decide +kernel) (by decide +kernel), ⟨by decide +kernel, by decide +kernel⟩, ⟨mx_bg 973 (by decide +kernel) (by decide +kernel), mx_bg 33 (by decide +kernel) (by decide +kernel)⟩⟩
theorem hX3_commonDataWord : mx_hT mX3_commonDataWord := ⟨okX3_commonDataWord, mx_bg 978 (by decide +kernel) (by decide +kernel), mx_bg 65 (by decide +kernel) (by decide +kernel), ⟨by decide +kernel, by decide +kernel⟩, ⟨mx_bg 977 (by decide +kernel) (by decide +kernel), mx_bg 34 (by decide +kernel) (by decide +kernel)⟩⟩
theorem hX3_isTaken : mx_hT mX3_isTaken := ⟨okX3_isTaken, mx_bg 969 (by decide +kernel) (by decide +kernel), mx_bg 65 (by decide +kernel) (by decide +kernel), ⟨by decide +kernel, by decide +kernel⟩, ⟨mx_bg 968 (by decide +kernel) (by decide +kernel), mx_bg 32 (by decide +kernel) (by decide +kernel)⟩⟩
theorem hX4_states : mx_hT mX4_states := ⟨okX4_states, mx_bg 404 (by decide +kernel) (by decide +kernel), mx_bg 58 (by decide +kernel) (by decide +kernel), ⟨by decide +kernel, by decide +kernel⟩, ⟨mx_bg 402 (by decide +kernel) (by decide +kernel), mx_bg 403 (by decide +kernel) (by decide +kernel)⟩⟩
theorem hX4_edges : mx_hT mX4_edges := ⟨okX4_edges, mx_bg 412 (by decide +kernel) (by decide +kernel), mx_bg 58 (by decide +kernel) (by decide +kernel), ⟨by decide +kernel, by decide +kernel⟩, ⟨mx_bg 410 (by decide +kernel) (by decide +kernel), mx_bg 411 (by decide +kernel) (by decide +kernel)⟩⟩
theorem hX4_labelBits : mx_hT mX4_labelBits := ⟨okX4_labelBits, mx_bg 420 (by decide +kernel) (by decide +kernel), mx_bg 58 (by decide +kernel) (by decide +kernel), ⟨by decide +kernel, by decide +kernel⟩, ⟨mx_bg 418 (by decide +kernel) (by decide +kernel), mx_bg 419 (by decide +kernel) (by decide +kernel)⟩⟩
theorem hX4_hasState : mx_hT mX4_hasState := ⟨okX4_hasState, mx_bg 343 (by decide +kernel) (by decide +kernel), mx_bg 58 (by decide +kernel) (by decide +kernel), ⟨by decide +kernel, by decide +kernel⟩, ⟨mx_bg 341 (by decide +kernel) (by decide +kernel), mx_bg 342 (by decide +kernel) (by decide +kernel)⟩⟩
theorem hX4_hasEdge : mx_hT mX4_hasEdge := ⟨okX4_hasEdge, mx_bg 396 (by decide +kernel) (by decide +kernel), mx_bg 58 (by decide +kernel) (by decide +kernel), ⟨by decide +kernel, by decide +kernel⟩, ⟨mx_bg 394 (by decide +kernel) (by decide +kernel), mx_bg 395 (by decide +kernel) (by decide +kernel)⟩⟩
theorem hX4_startOf : mx_hT mX4_startOf := ⟨okX4_startOf, mx_bg 429 (by decide +kernel) (by decide +kernel), mx_bg 58 (by decide +kernel) (by decide +kernel), ⟨by decide +kernel, by decide +kernel⟩, ⟨mx_bg 427 (by decide +kernel) (by decide +kernel), mx_bg 428 (by decide +kernel) (by decide +kernel)⟩⟩
theorem hX4_labelOf : mx_hT mX4_labelOf := ⟨okX4_labelOf, mx_bg 437 (by decide +kernel) (by decide +kernel), mx_bg 58 (by decide +kernel) (by decide +kernel), ⟨by decide +kernel, by decide +kernel⟩, ⟨mx_bg 435 (by decide +kernel) (by decide +kernel), mx_bg 436 (by decide +kernel) (by decide +kernel)⟩⟩
theorem hX4_endOf : mx_hT mX4_endOf := ⟨okX4_endOf, mx_bg 445 (by decide +kernel) (by decide +kernel), mx_bg 58 (by decide +kernel) (by decide +kernel), ⟨by decide +kernel, by decide +kernel⟩, ⟨mx_bg 443 (by decide +kernel) (by decide +kernel), mx_bg 444 (by decide +kernel) (by decide +kernel)⟩⟩
theorem hX4_becomeEmpty : mx_hT mX4_becomeEmpty := ⟨okX4_becomeEmpty, mx_bg 335 (by decide +kernel) (by decide +kernel), mx_bg 58 (by decide +kernel) (by decide +kernel), ⟨by decide +kernel, by decide +kernel⟩, ⟨mx_bg 333 (by decide +kernel) (by decide +kernel), mx_bg 334 (by decide +kernel) (by decide +kernel)⟩⟩
theorem hX4_becomeRunLength : mx_hT mX4_becomeRunLength := ⟨okX4_becomeRunLength, mx_bg 331 (by decide +kernel) (by decide +kernel), mx_bg 58 (by decide +kernel) (by decide +kernel), ⟨by decide +kernel, by decide +kernel⟩, ⟨mx_bg 329 (by decide +kernel) (by decide +kernel), mx_bg 330 (by decide +kernel) (by decide +kernel)⟩⟩
theorem hX4_becomeCharge : mx_hT mX4_becomeCharge := ⟨okX4_becomeCharge, mx_bg 366 (by decide +kernel) (by decide +kernel), mx_bg 58 (by decide +kernel) (by decide +kernel), ⟨by decide +kernel, by decide +kernel⟩, ⟨mx_bg 364 (by decide +kernel) (by decide +kernel), mx_bg 365 (by decide +kernel) (by decide +kernel)⟩⟩
theorem hX4_becomeCopyOf : mx_hT mX4_becomeCopyOf := ⟨okX4_becomeCopyOf, mx_bg 1026 (by decide +kernel) (by decide +kernel), mx_bg 58 (by decide +kernel) (by decide +kernel), ⟨by decide +kernel, by decide +kernel⟩, ⟨mx_bg 1024 (by decide +kernel) (by decide +kernel), mx_bg 1025 (by decide +kernel) (by decide +kernel)⟩⟩
theorem hX4_dropAllEdges : mx_hT mX4_dropAllEdges := ⟨okX4_dropAllEdges, mx_bg 487 (by decide +kernel) (by decide +kernel), mx_bg 58 (by decide +kernel) (by decide +kernel), ⟨by decide +kernel, by decide +kernel⟩, ⟨mx_bg 485 (by decide +kernel) (by decide +kernel), mx_bg 486 (by decide +kernel) (by decide +kernel)⟩⟩
theorem hX4_appendState : mx_hT mX4_appendState := ⟨okX4_appendState, mx_bg 379 (by decide +kernel) (by decide +kernel), mx_bg 58 (by decide +kernel) (by decide +kernel), ⟨by decide +kernel, by decide +kernel⟩, ⟨mx_bg 377 (by decide +kernel) (by decide +kernel), mx_bg 378 (by decide +kernel) (by decide +kernel)⟩⟩
theorem hX4_appendEdge : mx_hT mX4_appendEdge := ⟨okX4_appendEdge, mx_bg 339 (by decide +kernel) (by decide +kernel), mx_bg 58 (by decide +kernel) (by decide +kernel), ⟨by decide +kernel, by decide +kernel⟩, ⟨mx_bg 337 (by decide +kernel) (by decide +kernel), mx_bg 338 (by decide +kernel) (by decide +kernel)⟩⟩
theorem hX4_dropEdge : mx_hT mX4_dropEdge := ⟨okX4_dropEdge, mx_bg 392 (by decide +kernel) (by decide +kernel), mx_bg 58 (by decide +kernel) (by decide +kernel), ⟨by decide +kernel, by decide +kernel⟩, ⟨mx_bg 390 (by decide +kernel) (by decide +kernel), mx_bg 391 (by decide +kernel) (by decide +kernel)⟩⟩
theorem hX4_outDegree : mx_hT mX4_outDegree := ⟨okX4_outDegree, mx_bg 500 (by decide +kernel) (by decide +kernel), mx_bg 58 (by decide +kernel) (by decide +kernel), ⟨by decide +kernel, by decide +kernel⟩, ⟨mx_bg 498 (by decide +kernel) (by decide +kernel), mx_bg 499 (by decide +kernel) (by decide +kernel)⟩⟩
theorem hX4_inDegree : mx_hT mX4_inDegree := ⟨okX4_inDegree, mx_bg 507 (by decide +kernel) (by decide +kernel), mx_bg 58 (by decide +kernel) (by decide +kernel), ⟨by decide +kernel, by decide +kernel⟩, ⟨mx_bg 506 (by decide +kernel) (by decide +kernel), mx_bg 6 (by decide +kernel) (by decide +kernel)⟩⟩
theorem hX4_hasEdgesForAll : mx_hT mX4_hasEdgesForAll := ⟨okX4_hasEdgesForAll, mx_bg 877 (by decide +kernel) (by decide +kernel), mx_bg 58 (by decide +kernel) (by decide +kernel), ⟨by decide +kernel, by decide +kernel⟩, ⟨mx_bg 875 (by decide +kernel) (by decide +kernel), mx_bg 876 (by decide +kernel) (by decide +kernel)⟩⟩
theorem hX4_splitState : mx_hT mX4_splitState := ⟨okX4_splitState, mx_bg 496 (by decide +kernel) (by decide +kernel), mx_bg 58 (by decide +kernel) (by decide +kernel), ⟨by decide +kernel, by decide +kernel⟩, ⟨mx_bg 494 (by decide +kernel) (by decide +kernel), mx_bg 495 (by decide +kernel) (by decide +kernel)⟩⟩
theorem hX4_moveEdgesOutsideMask : mx_hT mX4_moveEdgesOutsideMask := ⟨okX4_moveEdgesOutsideMask, mx_bg 512 (by decide +kernel) (by decide +kernel), mx_bg 58 (by decide +kernel) (by decide +kernel), ⟨by decide +kernel, by decide +kernel⟩, ⟨mx_bg 511 (by decide +kernel) (by decide +kernel), mx_bg 7 (by decide +kernel) (by decide +kernel)⟩⟩
theorem hX4_copyIncomingEdges : mx_hT mX4_copyIncomingEdges := ⟨okX4_copyIncomingEdges, mx_bg 516 (by decide +kernel) (by decide +kernel), mx_bg 58 (by decide +kernel) (by decide +kernel), ⟨by decide +kernel, by decide +kernel⟩, ⟨mx_bg 515 (by decide +kernel) (by decide +kernel), mx_bg 8 (by decide +kernel) (by decide +kernel)⟩⟩
theorem hX4_deterministic : mx_hT mX4_deterministic := ⟨okX4_deterministic, mx_bg 524 (by decide +kernel) (by decide +kernel), mx_bg 58 (by decide +kernel) (by decide +kernel), ⟨by decide +kernel, by decide +kernel⟩, ⟨mx_bg 522 (by decide +kernel) (by decide +kernel), mx_bg 523 (by decide +kernel) (by decide +kernel)⟩⟩
theorem hX4_irreducible : mx_hT mX4_irreducible := ⟨okX4_irreducible, mx_bg 532 (by decide +kernel) (by decide +kernel), mx_bg 58 (by decide +kernel) (by decide +kernel), ⟨by decide +kernel, by decide +kernel⟩, ⟨mx_bg 530 (by decide +kernel) (by decide +kernel), mx_bg 531 (by decide +kernel) (by decide +kernel)⟩⟩
theorem hX4_closeReachedStates : mx_hT mX4_closeReachedStates := ⟨okX4_closeReachedStates, mx_bg 536 (by decide +kernel) (by decide +kernel), mx_bg 58 (by decide +kernel) (by decide +kernel), ⟨by decide +kernel, by decide +kernel⟩, ⟨mx_bg 535 (by decide +kernel) (by decide +kernel), mx_bg 9 (by decide +kernel) (by decide +kernel)⟩⟩
theorem hX4_edgeWithLabel : mx_hT mX4_edgeWithLabel := ⟨okX4_edgeWithLabel, mx_bg 768 (by decide +kernel) (by decide +kernel), mx_bg 58 (by decide +kernel) (by decide +kernel), ⟨by decide +kernel, by decide +kernel⟩, ⟨mx_bg 766 (by decide +kernel) (by decide +kernel), mx_bg 767 (by decide +kernel) (by decide +kernel)⟩⟩
theorem hX4_firstUngeneratedLabel : mx_hT mX4_firstUngeneratedLabel := ⟨okX4_firstUngeneratedLabel, mx_bg 672 (by decide +kernel) (by decide +kernel), mx_bg 58 (by decide +kernel) (by decide +kernel), ⟨by decide +kernel, by decide +kernel⟩, ⟨mx_bg 670 (by decide +kernel) (by decide +kernel), mx_bg 671 (by decide +kernel) (by decide +kernel)⟩⟩
theorem hX4_successors : mx_hT mX4_successors := ⟨okX4_successors, mx_bg 684 (by decide +kernel) (by decide +kernel), mx_bg 58 (by decide +kernel) (by decide +kernel), ⟨by decide +kernel, by decide +kernel⟩, ⟨mx_bg 683 (by decide +kernel) (by decide +kernel), mx_bg 13 (by decide +kernel) (by decide +kernel)⟩⟩
theorem hX5_rateBits : mx_hT mX5_rateBits := ⟨okX5_rateBits, mx_bg 798 (by decide +kernel) (by decide +kernel), mx_bg 63 (by decide +kernel) (by decide +kernel), ⟨by decide +kernel, by decide +kernel⟩, ⟨mx_bg 796 (by decide +kernel) (by decide +kernel), mx_bg 797 (by decide +kernel) (by decide +kernel)⟩⟩
theorem hX5_addEnds : mx_hT mX5_addEnds := ⟨okX5_addEnds, mx_bg 806 (by decide +kernel) (by decide +kernel), mx_bg 63 (by decide +kernel) (by decide +kernel), ⟨by decide +kernel, by decide +kernel⟩, ⟨mx_bg 805 (by decide +kernel) (by decide +kernel), mx_bg 19 (by decide +kernel) (by decide +kernel)⟩⟩
theorem hX5_greatestSum : mx_hT mX5_greatestSum := ⟨okX5_greatestSum, mx_bg 813 (by decide +kernel) (by decide +kernel), mx_bg 63 (by decide +kernel) (by decide +kernel), ⟨by decide +kernel, by decide +kernel⟩, ⟨mx_bg 812 (by decide +kernel) (by decide +kernel), mx_bg 20 (by decide +kernel) (by decide +kernel)⟩⟩
theorem hX5_takeSums : mx_hT mX5_takeSums := ⟨okX5_takeSums, mx_bg 818 (by decide +kernel) (by decide +kernel), mx_bg 63 (by decide +kernel) (by decide +kernel), ⟨by decide +kernel, by decide +kernel⟩, ⟨mx_bg 817 (by decide +kernel) (by decide +kernel), mx_bg 21 (by decide +kernel) (by decide +kernel)⟩⟩
theorem hX5_bitsOf : mx_hT mX5_bitsOf := ⟨okX5_bitsOf, mx_bg 821 (by decide +kernel) (by decide +kernel), mx_bg 63 (by decide +kernel) (by decide +kernel), ⟨by decide +kernel, by decide +kernel⟩, mx_bg 820 (by decide +kernel) (by decide +kernel)⟩
theorem hX6_raise : mx_hT mX6_raise := ⟨okX6_raise, mx_bg 453 (by decide +kernel) (by decide +kernel), mx_bg 61 (by decide +kernel) (by decide +kernel), ⟨by decide +kernel, by decide +kernel⟩, ⟨mx_bg 451 (by decide +kernel) (by decide +kernel), mx_bg 452 (by decide +kernel) (by decide +kernel)⟩⟩
theorem hX6_countPaths : mx_hT mX6_countPaths := ⟨okX6_countPaths, mx_bg 458 (by decide +kernel) (by decide +kernel), mx_bg 61 (by decide +kernel) (by decide +kernel), ⟨by decide +kernel, by decide +kernel⟩, ⟨mx_bg 457 (by decide +kernel) (by decide +kernel), mx_bg 1 (by decide +kernel) (by decide +kernel)⟩⟩
theorem hX6_totalOfPaths : mx_hT mX6_totalOfPaths := ⟨okX6_totalOfPaths, mx_bg 466 (by decide +kernel) (by decide +kernel), mx_bg 61 (by decide +kernel) (by decide +kernel), ⟨by decide +kernel, by decide +kernel⟩, ⟨mx_bg 465 (by decide +kernel) (by decide +kernel), mx_bg 2 (by decide +kernel) (by decide +kernel)⟩⟩
theorem hX6_listEmptyPaths : mx_hT mX6_listEmptyPaths := ⟨okX6_listEmptyPaths, mx_bg 471 (by decide +kernel) (by decide +kernel), mx_bg 61 (by decide +kernel) (by decide +kernel), ⟨by decide +kernel, by decide +kernel⟩, ⟨mx_bg 470 (by decide +kernel) (by decide +kernel), mx_bg 3 (by decide +kernel) (by decide +kernel)⟩⟩
theorem hX6_extendPaths : mx_hT mX6_extendPaths := ⟨okX6_extendPaths, mx_bg 475 (by decide +kernel) (by decide +kernel), mx_bg 61 (by decide +kernel) (by decide +kernel), ⟨by decide +kernel, by decide +kernel⟩, ⟨mx_bg 474 (by decide +kernel) (by decide +kernel), mx_bg 4 (by decide +kernel) (by decide +kernel)⟩⟩
theorem hX6_appendLonger : mx_hT mX6_appendLonger := ⟨okX6_appendLonger, mx_bg 480 (by decide +kernel) (by decide +kernel), mx_bg 61 (by decide +kernel) (by decide +kernel), ⟨by decide +kernel, by decide +kernel⟩, ⟨mx_bg 479 (by decide +kernel) (by decide +kernel), mx_bg 5 (by decide +kernel) (by decide +kernel)⟩⟩
theorem hX7_hasSlot : mx_hT mX7_hasSlot := ⟨okX7_hasSlot, mx_bg 990 (by decide +kernel) (by decide +kernel), mx_bg 67 (by decide +kernel) (by decide +kernel), ⟨by decide +kernel, by decide +kernel⟩, ⟨mx_bg 988 (by decide +kernel) (by decide +kernel), mx_bg 989 (by decide +kernel) (by decide +kernel)⟩⟩
theorem hX7_make : mx_hT mX7_make := ⟨okX7_make, mx_bg 986 (by decide +kernel) (by decide +kernel), mx_bg 67 (by decide +kernel) (by decide +kernel), ⟨by decide +kernel, by decide +kernel⟩, ⟨mx_bg 984 (by decide +kernel) (by decide +kernel), mx_bg 985 (by decide +kernel) (by decide +kernel)⟩⟩
theorem hX7_put : mx_hT mX7_put := ⟨okX7_put, mx_bg 999 (by decide +kernel) (by decide +kernel), mx_bg 67 (by decide +kernel) (by decide +kernel), ⟨by decide +kernel, by decide +kernel⟩, ⟨mx_bg 997 (by decide +kernel) (by decide +kernel), mx_bg 998 (by decide +kernel) (by decide +kernel)⟩⟩
theorem hX7_get : mx_hT mX7_get := ⟨okX7_get, mx_bg 1003 (by decide +kernel) (by decide +kernel), mx_bg 67 (by decide +kernel) (by decide +kernel), ⟨by decide +kernel, by decide +kernel⟩, ⟨mx_bg 1001 (by decide +kernel) (by decide +kernel), mx_bg 1002 (by decide +kernel) (by decide +kernel)⟩⟩
theorem hX7_firstUnequal : mx_hT mX7_firstUnequal := ⟨okX7_firstUnequal, mx_bg 1017 (by decide +kernel) (by decide +kernel), mx_bg 67 (by decide +kernel) (by decide +kernel), ⟨by decide +kernel, by decide +kernel⟩, ⟨mx_bg 1015 (by decide +kernel) (by decide +kernel), mx_bg 1016 (by decide +kernel) (by decide +kernel)⟩⟩
theorem hX8_length : mx_hT mX8_length := ⟨okX8_length, mx_bg 644 (by decide +kernel) (by decide +kernel), mx_bg 59 (by decide +kernel) (by decide +kernel), ⟨by decide +kernel, by decide +kernel⟩, ⟨mx_bg 642 (by decide +kernel) (by decide +kernel), mx_bg 643 (by decide +kernel) (by decide +kernel)⟩⟩
theorem hX8_hasIndex : mx_hT mX8_hasIndex := ⟨okX8_hasIndex, mx_bg 664 (by decide +kernel) (by decide +kernel), mx_bg 59 (by decide +kernel) (by decide +kernel), ⟨by decide +kernel, by decide +kernel⟩, ⟨mx_bg 662 (by decide +kernel) (by decide +kernel), mx_bg 663 (by decide +kernel) (by decide +kernel)⟩⟩
theorem hX8_hasRoom : mx_hT mX8_hasRoom := ⟨okX8_hasRoom, mx_bg 636 (by decide +kernel) (by decide +kernel), mx_bg 59 (by decide +kernel) (by decide +kernel), ⟨by decide +kernel, by decide +kernel⟩, ⟨mx_bg 634 (by decide +kernel) (by decide +kernel), mx_bg 635 (by decide +kernel) (by decide +kernel)⟩⟩
theorem hX8_bit : mx_hT mX8_bit := ⟨okX8_bit, mx_bg 660 (by decide +kernel) (by decide +kernel), mx_bg 59 (by decide +kernel) (by decide +kernel), ⟨by decide +kernel, by decide +kernel⟩, ⟨mx_bg 658 (by decide +kernel) (by decide +kernel), mx_bg 659 (by decide +kernel) (by decide +kernel)⟩⟩
theorem hX8_makeEmpty : mx_hT mX8_makeEmpty := ⟨okX8_makeEmpty, mx_bg 648 (by decide +kernel) (by decide +kernel), mx_bg 59 (by decide +kernel) (by decide +kernel), ⟨by decide +kernel, by decide +kernel⟩, ⟨mx_bg 646 (by decide +kernel) (by decide +kernel), mx_bg 647 (by decide +kernel) (by decide +kernel)⟩⟩
theorem hX8_append : mx_hT mX8_append := ⟨okX8_append, mx_bg 632 (by decide +kernel) (by decide +kernel), mx_bg 59 (by decide +kernel) (by decide +kernel), ⟨by decide +kernel, by decide +kernel⟩, ⟨mx_bg 630 (by decide +kernel) (by decide +kernel), mx_bg 631 (by decide +kernel) (by decide +kernel)⟩⟩
theorem hX8_appendLabel : mx_hT mX8_appendLabel := ⟨okX8_appendLabel, mx_bg 772 (by decide +kernel) (by decide +kernel), mx_bg 59 (by decide +kernel) (by decide +kernel), ⟨by decide +kernel, by decide +kernel⟩, ⟨mx_bg 770 (by decide +kernel) (by decide +kernel), mx_bg 771 (by decide +kernel) (by decide +kernel)⟩⟩
theorem hX8_wholeLabels : mx_hT mX8_wholeLabels := ⟨okX8_wholeLabels, mx_bg 676 (by decide +kernel) (by decide +kernel), mx_bg 59 (by decide +kernel) (by decide +kernel), ⟨by decide +kernel, by decide +kernel⟩, ⟨mx_bg 674 (by decide +kernel) (by decide +kernel), mx_bg 675 (by decide +kernel) (by decide +kernel)⟩⟩
theorem hX8_isMultipleOf : mx_hT mX8_isMultipleOf := ⟨okX8_isMultipleOf, mx_bg 959 (by decide +kernel) (by decide +kernel), mx_bg 59 (by decide +kernel) (by decide +kernel), ⟨by decide +kernel, by decide +kernel⟩, ⟨mx_bg 957 (by decide +kernel) (by decide +kernel), mx_bg 958 (by decide +kernel) (by decide +kernel)⟩⟩
theorem hX8_labelAt : mx_hT mX8_labelAt := ⟨okX8_labelAt, mx_bg 680 (by decide +kernel) (by decide +kernel), mx_bg 59 (by decide +kernel) (by decide +kernel), ⟨by decide +kernel, by decide +kernel⟩, ⟨mx_bg 678 (by decide +kernel) (by decide +kernel), mx_bg 679 (by decide +kernel) (by decide +kernel)⟩⟩
theorem hX8_ones : mx_hT mX8_ones := ⟨okX8_ones, mx_bg 697 (by decide +kernel) (by decide +kernel), mx_bg 59 (by decide +kernel) (by decide +kernel), ⟨by decide +kernel, by decide +kernel⟩, ⟨mx_bg 695 (by decide +kernel) (by decide +kernel), mx_bg 696 (by decide +kernel) (by decide +kernel)⟩⟩
theorem hX8_invertPrefix : mx_hT mX8_invertPrefix := ⟨okX8_invertPrefix, mx_bg 701 (by decide +kernel) (by decide +kernel), mx_bg 59 (by decide +kernel) (by decide +kernel), ⟨by decide +kernel, by decide +kernel⟩, ⟨mx_bg 699 (by decide +kernel) (by decide +kernel), mx_bg 700 (by decide +kernel) (by decide +kernel)⟩⟩
theorem hX8_balanceByPrefix : mx_hT mX8_balanceByPrefix := ⟨okX8_balanceByPrefix, mx_bg 693 (by decide +kernel) (by decide +kernel), mx_bg 59 (by decide +kernel) (by decide +kernel), ⟨by decide +kernel, by decide +kernel⟩, ⟨mx_bg 691 (by decide +kernel) (by decide +kernel), mx_bg 692 (by decide +kernel) (by decide +kernel)⟩⟩
theorem hX8_becomeCopyOf : mx_hT mX8_becomeCopyOf := ⟨okX8_becomeCopyOf, mx_bg 1031 (by decide +kernel) (by decide +kernel), mx_bg 59 (by decide +kernel) (by decide +kernel), ⟨by decide +kernel, by decide +kernel⟩, ⟨mx_bg 1029 (by decide +kernel) (by decide +kernel), mx_bg 1030 (by decide +kernel) (by decide +kernel)⟩⟩
theorem hX9_numberOfWords : mx_hT mX9_numberOfWords := ⟨okX9_numberOfWords, mx_bg 714 (by decide +kernel) (by decide +kernel), mx_bg 62 (by decide +kernel) (by decide +kernel), ⟨by decide +kernel, by decide +kernel⟩, ⟨mx_bg 712 (by decide +kernel) (by decide +kernel), mx_bg 713 (by decide +kernel) (by decide +kernel)⟩⟩
theorem hX9_writeWordOfRank : mx_hT mX9_writeWordOfRank := ⟨okX9_writeWordOfRank, mx_bg 759 (by decide +kernel) (by decide +kernel), mx_bg 62 (by decide +kernel) (by decide +kernel), ⟨by decide +kernel, by decide +kernel⟩, ⟨mx_bg 757 (by decide +kernel) (by decide +kernel), mx_bg 758 (by decide +kernel) (by decide +kernel)⟩⟩
theorem hX9_rankOfWord : mx_hT mX9_rankOfWord := ⟨okX9_rankOfWord, mx_bg 782 (by decide +kernel) (by decide +kernel), mx_bg 62 (by decide +kernel) (by decide +kernel), ⟨by decide +kernel, by decide +kernel⟩, ⟨mx_bg 780 (by decide +kernel) (by decide +kernel), mx_bg 781 (by decide +kernel) (by decide +kernel)⟩⟩
theorem hX9_problemOf : mx_hT mX9_problemOf := ⟨okX9_problemOf, mx_bg 717 (by decide +kernel) (by decide +kernel), mx_bg 62 (by decide +kernel) (by decide +kernel), ⟨by decide +kernel, by decide +kernel⟩, mx_bg 716 (by decide +kernel) (by decide +kernel)⟩
theorem hX9_countAll : mx_hT mX9_countAll := ⟨okX9_countAll, mx_bg 723 (by decide +kernel) (by decide +kernel), mx_bg 62 (by decide +kernel) (by decide +kernel), ⟨by decide +kernel, by decide +kernel⟩, ⟨mx_bg 722 (by decide +kernel) (by decide +kernel), mx_bg 14 (by decide +kernel) (by decide +kernel)⟩⟩
theorem hX9_addThrough : mx_hT mX9_addThrough := ⟨okX9_addThrough, mx_bg 733 (by decide +kernel) (by decide +kernel), mx_bg 62 (by decide +kernel) (by decide +kernel), ⟨by decide +kernel, by decide +kernel⟩, ⟨mx_bg 732 (by decide +kernel) (by decide +kernel), mx_bg 15 (by decide +kernel) (by decide +kernel)⟩⟩
theorem hX9_weightOf : mx_hT mX9_weightOf := ⟨okX9_weightOf, mx_bg 740 (by decide +kernel) (by decide +kernel), mx_bg 62 (by decide +kernel) (by decide +kernel), ⟨by decide +kernel, by decide +kernel⟩, ⟨mx_bg 739 (by decide +kernel) (by decide +kernel), mx_bg 16 (by decide +kernel) (by decide +kernel)⟩⟩
theorem hX9_countAt : mx_hT mX9_countAt := ⟨okX9_countAt, mx_bg 751 (by decide +kernel) (by decide +kernel), mx_bg 62 (by decide +kernel) (by decide +kernel), ⟨by decide +kernel, by decide +kernel⟩, ⟨mx_bg 750 (by decide +kernel) (by decide +kernel), mx_bg 17 (by decide +kernel) (by decide +kernel)⟩⟩
theorem hX9_countThrough : mx_hT mX9_countThrough := ⟨okX9_countThrough, mx_bg 764 (by decide +kernel) (by decide +kernel), mx_bg 62 (by decide +kernel) (by decide +kernel), ⟨by decide +kernel, by decide +kernel⟩, ⟨mx_bg 763 (by decide +kernel) (by decide +kernel), mx_bg 18 (by decide +kernel) (by decide +kernel)⟩⟩
theorem hJxe99ae_doubleToLongBits_ccdee : mx_hT mJxe99ae_doubleToLongBits_ccdee := ⟨okJxe99ae_doubleToLongBits_ccdee, mx_bg 1359 (by decide +kernel) (by decide +kernel), mx_bg 78 (by decide +kernel) (by decide +kernel), ⟨by decide +kernel, by decide +kernel⟩, mx_bg 1358 (by decide +kernel) (by decide +kernel)⟩
theorem hJxe99ae_isNaN_b9ae7 : mx_hT mJxe99ae_isNaN_b9ae7 := ⟨okJxe99ae_isNaN_b9ae7, mx_bg 1362 (by decide +kernel) (by decide +kernel), mx_bg 78 (by decide +kernel) (by decide +kernel), ⟨by decide +kernel, by decide +kernel⟩, mx_bg 1361 (by decide +kernel) (by decide +kernel)⟩
theorem hJ6_bitCount_0f7a4 : mx_hT mJ6_bitCount_0f7a4 := ⟨okJ6_bitCount_0f7a4, mx_bg 743 (by decide +kernel) (by decide +kernel), mx_bg 77 (by decide +kernel) (by decide +kernel), ⟨by decide +kernel, by decide +kernel⟩, mx_bg 742 (by decide +kernel) (by decide +kernel)⟩
theorem hJ7_fill_7f8df : mx_hT mJ7_fill_7f8df := ⟨okJ7_fill_7f8df, mx_bg 802 (by decide +kernel) (by decide +kernel), mx_bg 69 (by decide +kernel) (by decide +kernel), ⟨by decide +kernel, by decide +kernel⟩, mx_bg 801 (by decide +kernel) (by decide +kernel)⟩
theorem hJ7_fill_53178 : mx_hT mJ7_fill_53178 := ⟨okJ7_fill_53178, mx_bg 358 (by decide +kernel) (by decide +kernel), mx_bg 69 (by decide +kernel) (by decide +kernel), ⟨by decide +kernel, by decide +kernel⟩, mx_bg 357 (by decide +kernel) (by decide +kernel)⟩
theorem hJ7_fill_d0a16 : mx_hT mJ7_fill_d0a16 := ⟨okJ7_fill_d0a16, mx_bg 726 (by decide +kernel) (by decide +kernel), mx_bg 69 (by decide +kernel) (by decide +kernel), ⟨by decide +kernel, by decide +kernel⟩, mx_bg 725 (by decide +kernel) (by decide +kernel)⟩
set_option maxRecDepth 100000 in
theorem mx_hTs : ∀ m ∈ mx_mts, mx_hT m := List.forall_mem_cons.mpr ⟨hX10_loadRunLength, List.forall_mem_cons.mpr ⟨hX10_loadCharge, List.forall_mem_cons.mpr ⟨hX10_clear, List.forall_mem_cons.mpr ⟨hX10_addState, List.forall_mem_cons.mpr ⟨hX10_addEdge, List.forall_mem_cons.mpr ⟨hX10_removeEdge, List.forall_mem_cons.mpr ⟨hX10_stateCount, List.forall_mem_cons.mpr ⟨hX10_edgeCount, List.forall_mem_cons.mpr ⟨hX10_labelLength, List.forall_mem_cons.mpr ⟨hX10_edgeStart, List.forall_mem_cons.mpr ⟨hX10_edgeLabel, List.forall_mem_cons.mpr ⟨hX10_edgeEnd, List.forall_mem_cons.mpr ⟨hX10_power, List.forall_mem_cons.mpr ⟨hX10_split, List.forall_mem_cons.mpr ⟨hX10_isDeterministic, List.forall_mem_cons.mpr ⟨hX10_isIrreducible, List.forall_mem_cons.mpr ⟨hX10_afterGraphChange, List.forall_mem_cons.mpr ⟨hX10_appendCharacter, List.forall_mem_cons.mpr ⟨hX10_parseConstraint, List.forall_mem_cons.mpr ⟨hX10_appendBit, List.forall_mem_cons.mpr ⟨hX10_clearWord, List.forall_mem_cons.mpr ⟨hX10_wordLength, List.forall_mem_cons.mpr ⟨hX10_wordBit, List.forall_mem_cons.mpr ⟨hX10_firstViolation, List.forall_mem_cons.mpr ⟨hX10_balance, List.forall_mem_cons.mpr ⟨hX10_invert, List.forall_mem_cons.mpr ⟨hX10_countWords, List.forall_mem_cons.mpr ⟨hX10_unrank, List.forall_mem_cons.mpr ⟨hX10_rank, List.forall_mem_cons.mpr ⟨hX10_growthRate, List.forall_mem_cons.mpr ⟨hX10_eigenvectorElement, List.forall_mem_cons.mpr ⟨hX10_eigenvectorBound, List.forall_mem_cons.mpr ⟨hX10_isEncoder, List.forall_mem_cons.mpr ⟨hX10_startEncoder, List.forall_mem_cons.mpr ⟨hX10_encode, List.forall_mem_cons.mpr ⟨hX10_encoderState, List.forall_mem_cons.mpr ⟨hX10_anticipation, List.forall_mem_cons.mpr ⟨hX10_decode, List.forall_mem_cons.mpr ⟨hX10_newArray, List.forall_mem_cons.mpr ⟨hX10_setElement, List.forall_mem_cons.mpr ⟨hX10_element, List.forall_mem_cons.mpr ⟨hX10_firstDifference, List.forall_mem_cons.mpr ⟨hX10_saveSnapshot, List.forall_mem_cons.mpr ⟨hX10_restoreSnapshot, List.forall_mem_cons.mpr ⟨hX10_isDataLength, List.forall_mem_cons.mpr ⟨hX11_isIn, List.forall_mem_cons.mpr ⟨hX11_isState, List.forall_mem_cons.mpr ⟨hX11_isEdge, List.forall_mem_cons.mpr ⟨hX11_lays, List.forall_mem_cons.mpr ⟨hX11_begins, List.forall_mem_cons.mpr ⟨hX11_loadRunLength, List.forall_mem_cons.mpr ⟨hX11_loadCharge, List.forall_mem_cons.mpr ⟨hX11_clear, List.forall_mem_cons.mpr ⟨hX11_addState, List.forall_mem_cons.mpr ⟨hX11_addEdge, List.forall_mem_cons.mpr ⟨hX11_removeEdge, List.forall_mem_cons.mpr ⟨hX11_stateCount, List.forall_mem_cons.mpr ⟨hX11_edgeCount, List.forall_mem_cons.mpr ⟨hX11_labelLength, List.forall_mem_cons.mpr ⟨hX11_edgeStart, List.forall_mem_cons.mpr ⟨hX11_edgeLabel, List.forall_mem_cons.mpr ⟨hX11_edgeEnd, List.forall_mem_cons.mpr ⟨hX11_power, List.forall_mem_cons.mpr ⟨hX11_walks, List.forall_mem_cons.mpr ⟨hX11_edgesOf, List.forall_mem_cons.mpr ⟨hX11_split, List.forall_mem_cons.mpr ⟨hX11_isDeterministicNow, List.forall_mem_cons.mpr ⟨hX11_isDeterministic, List.forall_mem_cons.mpr ⟨hX11_isIrreducible, List.forall_mem_cons.mpr ⟨hX11_appendCharacter, List.forall_mem_cons.mpr ⟨hX11_goes, List.forall_mem_cons.mpr ⟨hX11_parseConstraint, List.forall_mem_cons.mpr ⟨hX11_appendBit, List.forall_mem_cons.mpr ⟨hX11_clearWord, List.forall_mem_cons.mpr ⟨hX11_wordLength, List.forall_mem_cons.mpr ⟨hX11_wordBit, List.forall_mem_cons.mpr ⟨hX11_labelAt, List.forall_mem_cons.mpr ⟨hX11_after, List.forall_mem_cons.mpr ⟨hX11_firstViolation, List.forall_mem_cons.mpr ⟨hX11_ones, List.forall_mem_cons.mpr ⟨hX11_balance, List.forall_mem_cons.mpr ⟨hX11_invert, List.forall_mem_cons.mpr ⟨hX11_onesOf, List.forall_mem_cons.mpr ⟨hX11_at, List.forall_mem_cons.mpr ⟨hX11_counts, List.forall_mem_cons.mpr ⟨hX11_number, List.forall_mem_cons.mpr ⟨hX11_hinders, List.forall_mem_cons.mpr ⟨hX11_countWords, List.forall_mem_cons.mpr ⟨hX11_edgeBy, List.forall_mem_cons.mpr ⟨hX11_unrank, List.forall_mem_cons.mpr ⟨hX11_rank, List.forall_mem_cons.mpr ⟨hX11_growthRate, List.forall_mem_cons.mpr ⟨hX11_bound, List.forall_mem_cons.mpr ⟨hX11_eigenvectorElement, List.forall_mem_cons.mpr ⟨hX11_eigenvectorBound, List.forall_mem_cons.mpr ⟨hX11_isEncoderFor, List.forall_mem_cons.mpr ⟨hX11_isEncoder, List.forall_mem_cons.mpr ⟨hX11_startEncoder, List.forall_mem_cons.mpr ⟨hX11_data, List.forall_mem_cons.mpr ⟨hX11_encode, List.forall_mem_cons.mpr ⟨hX11_encoderState, List.forall_mem_cons.mpr ⟨hX11_pairs, List.forall_mem_cons.mpr ⟨hX11_anticipation, List.forall_mem_cons.mpr ⟨hX11_decode, List.forall_mem_cons.mpr ⟨hX11_encoded, List.forall_mem_cons.mpr ⟨hX11_isSlot, List.forall_mem_cons.mpr ⟨hX11_newArray, List.forall_mem_cons.mpr ⟨hX11_setElement, List.forall_mem_cons.mpr ⟨hX11_element, List.forall_mem_cons.mpr ⟨hX11_firstDifference, List.forall_mem_cons.mpr ⟨hX11_copies, List.forall_mem_cons.mpr ⟨hX11_saveSnapshot, List.forall_mem_cons.mpr ⟨hX11_restoreSnapshot, List.forall_mem_cons.mpr ⟨hX0_smallest, List.forall_mem_cons.mpr ⟨hX0_leavesFirstEdgeOpen, List.forall_mem_cons.mpr ⟨hX0_lengthenPaths, List.forall_mem_cons.mpr ⟨hX0_goTogether, List.forall_mem_cons.mpr ⟨hX1_append, List.forall_mem_cons.mpr ⟨hX1_applyTo, List.forall_mem_cons.mpr ⟨hX1_loadNamed, List.forall_mem_cons.mpr ⟨hX1_matchedBy, List.forall_mem_cons.mpr ⟨hX1_fits, List.forall_mem_cons.mpr ⟨hX1_digitAt, List.forall_mem_cons.mpr ⟨hX2_forget, List.forall_mem_cons.mpr ⟨hX2_find, List.forall_mem_cons.mpr ⟨hX2_foundBound, List.forall_mem_cons.mpr ⟨hX2_foundElement, List.forall_mem_cons.mpr ⟨hX2_isNumber, List.forall_mem_cons.mpr ⟨hX2_smallestBound, List.forall_mem_cons.mpr ⟨hX2_settle, List.forall_mem_cons.mpr ⟨hX2_lower, List.forall_mem_cons.mpr ⟨hX3_turnOff, List.forall_mem_cons.mpr ⟨hX3_turnOn, List.forall_mem_cons.mpr ⟨hX3_orderEdges, List.forall_mem_cons.mpr ⟨hX3_giveDataWord, List.forall_mem_cons.mpr ⟨hX3_state, List.forall_mem_cons.mpr ⟨hX3_write, List.forall_mem_cons.mpr ⟨hX3_read, List.forall_mem_cons.mpr ⟨hX3_statesAfter, List.forall_mem_cons.mpr ⟨hX3_statesBefore, List.forall_mem_cons.mpr ⟨hX3_commonDataWord, List.forall_mem_cons.mpr ⟨hX3_isTaken, List.forall_mem_cons.mpr ⟨hX4_states, List.forall_mem_cons.mpr ⟨hX4_edges, List.forall_mem_cons.mpr ⟨hX4_labelBits, List.forall_mem_cons.mpr ⟨hX4_hasState, List.forall_mem_cons.mpr ⟨hX4_hasEdge, List.forall_mem_cons.mpr ⟨hX4_startOf, List.forall_mem_cons.mpr ⟨hX4_labelOf, List.forall_mem_cons.mpr ⟨hX4_endOf, List.forall_mem_cons.mpr ⟨hX4_becomeEmpty, List.forall_mem_cons.mpr ⟨hX4_becomeRunLength, List.forall_mem_cons.mpr ⟨hX4_becomeCharge, List.forall_mem_cons.mpr ⟨hX4_becomeCopyOf, List.forall_mem_cons.mpr ⟨hX4_dropAllEdges, List.forall_mem_cons.mpr ⟨hX4_appendState, List.forall_mem_cons.mpr ⟨hX4_appendEdge, List.forall_mem_cons.mpr ⟨hX4_dropEdge, List.forall_mem_cons.mpr ⟨hX4_outDegree, List.forall_mem_cons.mpr ⟨hX4_inDegree, List.forall_mem_cons.mpr ⟨hX4_hasEdgesForAll, List.forall_mem_cons.mpr ⟨hX4_splitState, List.forall_mem_cons.mpr ⟨hX4_moveEdgesOutsideMask, List.forall_mem_cons.mpr ⟨hX4_copyIncomingEdges, List.forall_mem_cons.mpr ⟨hX4_deterministic, List.forall_mem_cons.mpr ⟨hX4_irreducible, List.forall_mem_cons.mpr ⟨hX4_closeReachedStates, List.forall_mem_cons.mpr ⟨hX4_edgeWithLabel, List.forall_mem_cons.mpr ⟨hX4_firstUngeneratedLabel, List.forall_mem_cons.mpr ⟨hX4_successors, List.forall_mem_cons.mpr ⟨hX5_rateBits, List.forall_mem_cons.mpr ⟨hX5_addEnds, List.forall_mem_cons.mpr ⟨hX5_greatestSum, List.forall_mem_cons.mpr ⟨hX5_takeSums, List.forall_mem_cons.mpr ⟨hX5_bitsOf, List.forall_mem_cons.mpr ⟨hX6_raise, List.forall_mem_cons.mpr ⟨hX6_countPaths, List.forall_mem_cons.mpr ⟨hX6_totalOfPaths, List.forall_mem_cons.mpr ⟨hX6_listEmptyPaths, List.forall_mem_cons.mpr ⟨hX6_extendPaths, List.forall_mem_cons.mpr ⟨hX6_appendLonger, List.forall_mem_cons.mpr ⟨hX7_hasSlot, List.forall_mem_cons.mpr ⟨hX7_make, List.forall_mem_cons.mpr ⟨hX7_put, List.forall_mem_cons.mpr ⟨hX7_get, List.forall_mem_cons.mpr ⟨hX7_firstUnequal, List.forall_mem_cons.mpr ⟨hX8_length, List.forall_mem_cons.mpr ⟨hX8_hasIndex, List.forall_mem_cons.mpr ⟨hX8_hasRoom, List.forall_mem_cons.mpr ⟨hX8_bit, List.forall_mem_cons.mpr ⟨hX8_makeEmpty, List.forall_mem_cons.mpr ⟨hX8_append, List.forall_mem_cons.mpr ⟨hX8_appendLabel, List.forall_mem_cons.mpr ⟨hX8_wholeLabels, List.forall_mem_cons.mpr ⟨hX8_isMultipleOf, List.forall_mem_cons.mpr ⟨hX8_labelAt, List.forall_mem_cons.mpr ⟨hX8_ones, List.forall_mem_cons.mpr ⟨hX8_invertPrefix, List.forall_mem_cons.mpr ⟨hX8_balanceByPrefix, List.forall_mem_cons.mpr ⟨hX8_becomeCopyOf, List.forall_mem_cons.mpr ⟨hX9_numberOfWords, List.forall_mem_cons.mpr ⟨hX9_writeWordOfRank, List.forall_mem_cons.mpr ⟨hX9_rankOfWord, List.forall_mem_cons.mpr ⟨hX9_problemOf, List.forall_mem_cons.mpr ⟨hX9_countAll, List.forall_mem_cons.mpr ⟨hX9_addThrough, List.forall_mem_cons.mpr ⟨hX9_weightOf, List.forall_mem_cons.mpr ⟨hX9_countAt, List.forall_mem_cons.mpr ⟨hX9_countThrough, List.forall_mem_cons.mpr ⟨hJxe99ae_doubleToLongBits_ccdee, List.forall_mem_cons.mpr ⟨hJxe99ae_isNaN_b9ae7, List.forall_mem_cons.mpr ⟨hJ6_bitCount_0f7a4, List.forall_mem_cons.mpr ⟨hJ7_fill_7f8df, List.forall_mem_cons.mpr ⟨hJ7_fill_53178, List.forall_mem_cons.mpr ⟨hJ7_fill_d0a16, fun _ h => absurd h List.not_mem_nil⟩⟩⟩⟩⟩⟩⟩⟩⟩⟩⟩⟩⟩⟩⟩⟩⟩⟩⟩⟩⟩⟩⟩⟩⟩⟩⟩⟩⟩⟩⟩⟩⟩⟩⟩⟩⟩⟩⟩⟩⟩⟩⟩⟩⟩⟩⟩⟩⟩⟩⟩⟩⟩⟩⟩⟩⟩⟩⟩⟩⟩⟩⟩⟩⟩⟩⟩⟩⟩⟩⟩⟩⟩⟩⟩⟩⟩⟩⟩⟩⟩⟩⟩⟩⟩⟩⟩⟩⟩⟩⟩⟩⟩⟩⟩⟩⟩⟩⟩⟩⟩⟩⟩⟩⟩⟩⟩⟩⟩⟩⟩⟩⟩⟩⟩⟩⟩⟩⟩⟩⟩⟩⟩⟩⟩⟩⟩⟩⟩⟩⟩⟩⟩⟩⟩⟩⟩⟩⟩⟩⟩⟩⟩⟩⟩⟩⟩⟩⟩⟩⟩⟩⟩⟩⟩⟩⟩⟩⟩⟩⟩⟩⟩⟩⟩⟩⟩⟩⟩⟩⟩⟩⟩⟩⟩⟩⟩⟩⟩⟩⟩⟩⟩⟩⟩⟩⟩⟩⟩⟩⟩⟩⟩⟩⟩⟩⟩⟩⟩⟩⟩⟩⟩⟩⟩⟩⟩⟩⟩⟩⟩⟩⟩⟩⟩
theorem mx_hy : mx_Hy mx_TT mx_mt mx_big :=
  ⟨mx_hFs, fun q hq => (mx_hMs q hq).1, fun q hq => (mx_hMs q hq).2.1, fun q hq => (mx_hMs q hq).2.2.1, fun q hq => (mx_hMs q hq).2.2.2.1, fun q hq => (mx_hMs q hq).2.2.2.2, mx_hN3, mx_hKi, mx_hKl, mx_hKd, mx_hN1, mx_hN2, mx_hCs,
   fun id m h => mx_hTs m (List.mem_of_getElem? h), fun w hw => (List.mem_filter.mp hw).2⟩
