-- written by wip/whole/gen3 (inline): all tables, and C closed under them
def allTb : List (Nat × List (Nat × Ins)) := [(n_X0_empty, tb_X0_empty), (n_X0_copyFrom, tb_X0_copyFrom), (n_X0_sitter, tb_X0_sitter), (n_X0_seat, tb_X0_seat), (n_X1_bitsOf, tb_X1_bitsOf), (n_X2_empty, tb_X2_empty), (n_X2_copyFrom, tb_X2_copyFrom), (n_X2_hasRoom, tb_X2_hasRoom), (n_X2_has, tb_X2_has), (n_X2_add, tb_X2_add), (n_X2_lowerTo, tb_X2_lowerTo), (n_X2_takeOut, tb_X2_takeOut), (n_X2_joinAll, tb_X2_joinAll), (n_X2_settleAll, tb_X2_settleAll), (n_X2_findPair, tb_X2_findPair), (n_X2_linkTwo, tb_X2_linkTwo), (n_X2_cutOff, tb_X2_cutOff), (n_X2_freeChildren, tb_X2_freeChildren), (n_X2_makeRoot, tb_X2_makeRoot), (n_X2_besideBefore, tb_X2_besideBefore), (n_X2_isSooner, tb_X2_isSooner), (n_X2_isRoot, tb_X2_isRoot), (n_X2_count, tb_X2_count), (n_X2_links, tb_X2_links), (n_X2_cuts, tb_X2_cuts), (n_X2_kindOf, tb_X2_kindOf), (n_X2_keyOf, tb_X2_keyOf), (n_X2_aboveOf, tb_X2_aboveOf), (n_X2_rankOf, tb_X2_rankOf), (n_X2_isStanding, tb_X2_isStanding), (n_X2_isLoose, tb_X2_isLoose), (n_X2_soonest, tb_X2_soonest), (n_X2_standingCount, tb_X2_standingCount), (n_X2_standingAt, tb_X2_standingAt), (n_X2_rootCount, tb_X2_rootCount), (n_X2_looseCount, tb_X2_looseCount), (n_X2_looseOfRank, tb_X2_looseOfRank), (n_X2_greatestRank, tb_X2_greatestRank), (n_X2_longestRow, tb_X2_longestRow), (n_X2_depthOf, tb_X2_depthOf), (n_X2_sizeOf, tb_X2_sizeOf), (n_X2_isWithin, tb_X2_isWithin), (n_X2_childAt, tb_X2_childAt), (n_X2_sumOfKeys, tb_X2_sumOfKeys), (n_X3_isKept, tb_X3_isKept), (n_X3_store, tb_X3_store), (n_X3_restore, tb_X3_restore), (n_X4_begin, tb_X4_begin), (n_X4_draw, tb_X4_draw), (n_X5_layOut, tb_X5_layOut), (n_X5_hasRoom, tb_X5_hasRoom), (n_X5_hasPlace, tb_X5_hasPlace), (n_X5_add, tb_X5_add), (n_X5_places, tb_X5_places), (n_X5_count, tb_X5_count), (n_X5_grow, tb_X5_grow), (n_X5_begin, tb_X5_begin), (n_X5_spread, tb_X5_spread), (n_X5_acrossFrom, tb_X5_acrossFrom), (n_X5_isReached, tb_X5_isReached), (n_X5_weightOfTree, tb_X5_weightOfTree), (n_X5_roadsOfTree, tb_X5_roadsOfTree), (n_X5_links, tb_X5_links), (n_X5_cuts, tb_X5_cuts), (n_X5_lowerings, tb_X5_lowerings), (n_X5_distanceTo, tb_X5_distanceTo), (n_X5_reachedCount, tb_X5_reachedCount), (n_X6_put, tb_X6_put), (n_X6_lower, tb_X6_lower), (n_X6_take, tb_X6_take), (n_X6_drop, tb_X6_drop), (n_X6_join, tb_X6_join), (n_X6_clear, tb_X6_clear), (n_X6_drift, tb_X6_drift), (n_X6_told, tb_X6_told), (n_X6_job, tb_X6_job), (n_X6_child, tb_X6_child), (n_X6_loose, tb_X6_loose), (n_X6_bits, tb_X6_bits), (n_X6_sit, tb_X6_sit), (n_X6_sits, tb_X6_sits), (n_X6_net, tb_X6_net), (n_X6_road, tb_X6_road), (n_X6_tree, tb_X6_tree), (n_X6_way, tb_X6_way), (n_X6_ways, tb_X6_ways), (n_X6_keep, tb_X6_keep), (n_X6_goBack, tb_X6_goBack), (n_X6_driftOnce, tb_X6_driftOnce), (n_X6_putByLots, tb_X6_putByLots), (n_X6_lowerByLots, tb_X6_lowerByLots), (n_X6_takeByLots, tb_X6_takeByLots), (n_X6_between, tb_X6_between), (n_X6_isKey, tb_X6_isKey), (n_X6_flag, tb_X6_flag), (n_X7_in, tb_X7_in), (n_X7_own, tb_X7_own), (n_X7_isSooner, tb_X7_isSooner), (n_X7_rank, tb_X7_rank), (n_X7_link, tb_X7_link), (n_X7_cut, tb_X7_cut), (n_X7_isOf, tb_X7_isOf), (n_X7_ofRank, tb_X7_ofRank), (n_X7_twice, tb_X7_twice), (n_X7_settle, tb_X7_settle), (n_X7_joinAll, tb_X7_joinAll), (n_X7_add, tb_X7_add), (n_X7_lowerTo, tb_X7_lowerTo), (n_X7_remove, tb_X7_remove), (n_X7_soonest, tb_X7_soonest), (n_X7_standing, tb_X7_standing), (n_X7_isJob, tb_X7_isJob), (n_X7_put, tb_X7_put), (n_X7_lower, tb_X7_lower), (n_X7_take, tb_X7_take), (n_X7_drop, tb_X7_drop), (n_X7_join, tb_X7_join), (n_X7_clear, tb_X7_clear), (n_X7_standingAt, tb_X7_standingAt), (n_X7_drawn, tb_X7_drawn), (n_X7_lot, tb_X7_lot), (n_X7_drift, tb_X7_drift), (n_X7_depth, tb_X7_depth), (n_X7_isUnder, tb_X7_isUnder), (n_X7_many, tb_X7_many), (n_X7_told, tb_X7_told), (n_X7_under, tb_X7_under), (n_X7_power, tb_X7_power), (n_X7_bitsOf, tb_X7_bitsOf), (n_X7_job, tb_X7_job), (n_X7_child, tb_X7_child), (n_X7_loose, tb_X7_loose), (n_X7_bits, tb_X7_bits), (n_X7_sit, tb_X7_sit), (n_X7_sits, tb_X7_sits), (n_X7_net, tb_X7_net), (n_X7_isPlace, tb_X7_isPlace), (n_X7_road, tb_X7_road), (n_X7_goFrom, tb_X7_goFrom), (n_X7_lay, tb_X7_lay), (n_X7_hanging, tb_X7_hanging), (n_X7_tree, tb_X7_tree), (n_X7_way, tb_X7_way), (n_X7_ways, tb_X7_ways), (n_X7_keep, tb_X7_keep), (n_X7_goBack, tb_X7_goBack), (n_J7_fill_53178, tb_J7_fill_53178)]
def ClA (C : Nat → CP) : Prop := ∀ q ∈ allTb, Cl1 C q.1 q.2
theorem ClA.X0_empty {C : Nat → CP} (h : ClA C) : Cl1 C n_X0_empty tb_X0_empty := h (n_X0_empty, tb_X0_empty) (List.mem_of_getElem? (i := 0) rfl)
theorem ClA.X0_copyFrom {C : Nat → CP} (h : ClA C) : Cl1 C n_X0_copyFrom tb_X0_copyFrom := h (n_X0_copyFrom, tb_X0_copyFrom) (List.mem_of_getElem? (i := 1) rfl)
theorem ClA.X0_sitter {C : Nat → CP} (h : ClA C) : Cl1 C n_X0_sitter tb_X0_sitter := h (n_X0_sitter, tb_X0_sitter) (List.mem_of_getElem? (i := 2) rfl)
theorem ClA.X0_seat {C : Nat → CP} (h : ClA C) : Cl1 C n_X0_seat tb_X0_seat := h (n_X0_seat, tb_X0_seat) (List.mem_of_getElem? (i := 3) rfl)
theorem ClA.X1_bitsOf {C : Nat → CP} (h : ClA C) : Cl1 C n_X1_bitsOf tb_X1_bitsOf := h (n_X1_bitsOf, tb_X1_bitsOf) (List.mem_of_getElem? (i := 4) rfl)
theorem ClA.X2_empty {C : Nat → CP} (h : ClA C) : Cl1 C n_X2_empty tb_X2_empty := h (n_X2_empty, tb_X2_empty) (List.mem_of_getElem? (i := 5) rfl)
theorem ClA.X2_copyFrom {C : Nat → CP} (h : ClA C) : Cl1 C n_X2_copyFrom tb_X2_copyFrom := h (n_X2_copyFrom, tb_X2_copyFrom) (List.mem_of_getElem? (i := 6) rfl)
theorem ClA.X2_hasRoom {C : Nat → CP} (h : ClA C) : Cl1 C n_X2_hasRoom tb_X2_hasRoom := h (n_X2_hasRoom, tb_X2_hasRoom) (List.mem_of_getElem? (i := 7) rfl)
theorem ClA.X2_has {C : Nat → CP} (h : ClA C) : Cl1 C n_X2_has tb_X2_has := h (n_X2_has, tb_X2_has) (List.mem_of_getElem? (i := 8) rfl)
theorem ClA.X2_add {C : Nat → CP} (h : ClA C) : Cl1 C n_X2_add tb_X2_add := h (n_X2_add, tb_X2_add) (List.mem_of_getElem? (i := 9) rfl)
theorem ClA.X2_lowerTo {C : Nat → CP} (h : ClA C) : Cl1 C n_X2_lowerTo tb_X2_lowerTo := h (n_X2_lowerTo, tb_X2_lowerTo) (List.mem_of_getElem? (i := 10) rfl)
theorem ClA.X2_takeOut {C : Nat → CP} (h : ClA C) : Cl1 C n_X2_takeOut tb_X2_takeOut := h (n_X2_takeOut, tb_X2_takeOut) (List.mem_of_getElem? (i := 11) rfl)
theorem ClA.X2_joinAll {C : Nat → CP} (h : ClA C) : Cl1 C n_X2_joinAll tb_X2_joinAll := h (n_X2_joinAll, tb_X2_joinAll) (List.mem_of_getElem? (i := 12) rfl)
theorem ClA.X2_settleAll {C : Nat → CP} (h : ClA C) : Cl1 C n_X2_settleAll tb_X2_settleAll := h (n_X2_settleAll, tb_X2_settleAll) (List.mem_of_getElem? (i := 13) rfl)
theorem ClA.X2_findPair {C : Nat → CP} (h : ClA C) : Cl1 C n_X2_findPair tb_X2_findPair := h (n_X2_findPair, tb_X2_findPair) (List.mem_of_getElem? (i := 14) rfl)
theorem ClA.X2_linkTwo {C : Nat → CP} (h : ClA C) : Cl1 C n_X2_linkTwo tb_X2_linkTwo := h (n_X2_linkTwo, tb_X2_linkTwo) (List.mem_of_getElem? (i := 15) rfl)
theorem ClA.X2_cutOff {C : Nat → CP} (h : ClA C) : Cl1 C n_X2_cutOff tb_X2_cutOff := h (n_X2_cutOff, tb_X2_cutOff) (List.mem_of_getElem? (i := 16) rfl)
theorem ClA.X2_freeChildren {C : Nat → CP} (h : ClA C) : Cl1 C n_X2_freeChildren tb_X2_freeChildren := h (n_X2_freeChildren, tb_X2_freeChildren) (List.mem_of_getElem? (i := 17) rfl)
theorem ClA.X2_makeRoot {C : Nat → CP} (h : ClA C) : Cl1 C n_X2_makeRoot tb_X2_makeRoot := h (n_X2_makeRoot, tb_X2_makeRoot) (List.mem_of_getElem? (i := 18) rfl)
theorem ClA.X2_besideBefore {C : Nat → CP} (h : ClA C) : Cl1 C n_X2_besideBefore tb_X2_besideBefore := h (n_X2_besideBefore, tb_X2_besideBefore) (List.mem_of_getElem? (i := 19) rfl)
theorem ClA.X2_isSooner {C : Nat → CP} (h : ClA C) : Cl1 C n_X2_isSooner tb_X2_isSooner := h (n_X2_isSooner, tb_X2_isSooner) (List.mem_of_getElem? (i := 20) rfl)
theorem ClA.X2_isRoot {C : Nat → CP} (h : ClA C) : Cl1 C n_X2_isRoot tb_X2_isRoot := h (n_X2_isRoot, tb_X2_isRoot) (List.mem_of_getElem? (i := 21) rfl)
theorem ClA.X2_count {C : Nat → CP} (h : ClA C) : Cl1 C n_X2_count tb_X2_count := h (n_X2_count, tb_X2_count) (List.mem_of_getElem? (i := 22) rfl)
theorem ClA.X2_links {C : Nat → CP} (h : ClA C) : Cl1 C n_X2_links tb_X2_links := h (n_X2_links, tb_X2_links) (List.mem_of_getElem? (i := 23) rfl)
theorem ClA.X2_cuts {C : Nat → CP} (h : ClA C) : Cl1 C n_X2_cuts tb_X2_cuts := h (n_X2_cuts, tb_X2_cuts) (List.mem_of_getElem? (i := 24) rfl)
theorem ClA.X2_kindOf {C : Nat → CP} (h : ClA C) : Cl1 C n_X2_kindOf tb_X2_kindOf := h (n_X2_kindOf, tb_X2_kindOf) (List.mem_of_getElem? (i := 25) rfl)
theorem ClA.X2_keyOf {C : Nat → CP} (h : ClA C) : Cl1 C n_X2_keyOf tb_X2_keyOf := h (n_X2_keyOf, tb_X2_keyOf) (List.mem_of_getElem? (i := 26) rfl)
theorem ClA.X2_aboveOf {C : Nat → CP} (h : ClA C) : Cl1 C n_X2_aboveOf tb_X2_aboveOf := h (n_X2_aboveOf, tb_X2_aboveOf) (List.mem_of_getElem? (i := 27) rfl)
theorem ClA.X2_rankOf {C : Nat → CP} (h : ClA C) : Cl1 C n_X2_rankOf tb_X2_rankOf := h (n_X2_rankOf, tb_X2_rankOf) (List.mem_of_getElem? (i := 28) rfl)
theorem ClA.X2_isStanding {C : Nat → CP} (h : ClA C) : Cl1 C n_X2_isStanding tb_X2_isStanding := h (n_X2_isStanding, tb_X2_isStanding) (List.mem_of_getElem? (i := 29) rfl)
theorem ClA.X2_isLoose {C : Nat → CP} (h : ClA C) : Cl1 C n_X2_isLoose tb_X2_isLoose := h (n_X2_isLoose, tb_X2_isLoose) (List.mem_of_getElem? (i := 30) rfl)
theorem ClA.X2_soonest {C : Nat → CP} (h : ClA C) : Cl1 C n_X2_soonest tb_X2_soonest := h (n_X2_soonest, tb_X2_soonest) (List.mem_of_getElem? (i := 31) rfl)
theorem ClA.X2_standingCount {C : Nat → CP} (h : ClA C) : Cl1 C n_X2_standingCount tb_X2_standingCount := h (n_X2_standingCount, tb_X2_standingCount) (List.mem_of_getElem? (i := 32) rfl)
theorem ClA.X2_standingAt {C : Nat → CP} (h : ClA C) : Cl1 C n_X2_standingAt tb_X2_standingAt := h (n_X2_standingAt, tb_X2_standingAt) (List.mem_of_getElem? (i := 33) rfl)
theorem ClA.X2_rootCount {C : Nat → CP} (h : ClA C) : Cl1 C n_X2_rootCount tb_X2_rootCount := h (n_X2_rootCount, tb_X2_rootCount) (List.mem_of_getElem? (i := 34) rfl)
theorem ClA.X2_looseCount {C : Nat → CP} (h : ClA C) : Cl1 C n_X2_looseCount tb_X2_looseCount := h (n_X2_looseCount, tb_X2_looseCount) (List.mem_of_getElem? (i := 35) rfl)
theorem ClA.X2_looseOfRank {C : Nat → CP} (h : ClA C) : Cl1 C n_X2_looseOfRank tb_X2_looseOfRank := h (n_X2_looseOfRank, tb_X2_looseOfRank) (List.mem_of_getElem? (i := 36) rfl)
theorem ClA.X2_greatestRank {C : Nat → CP} (h : ClA C) : Cl1 C n_X2_greatestRank tb_X2_greatestRank := h (n_X2_greatestRank, tb_X2_greatestRank) (List.mem_of_getElem? (i := 37) rfl)
theorem ClA.X2_longestRow {C : Nat → CP} (h : ClA C) : Cl1 C n_X2_longestRow tb_X2_longestRow := h (n_X2_longestRow, tb_X2_longestRow) (List.mem_of_getElem? (i := 38) rfl)
theorem ClA.X2_depthOf {C : Nat → CP} (h : ClA C) : Cl1 C n_X2_depthOf tb_X2_depthOf := h (n_X2_depthOf, tb_X2_depthOf) (List.mem_of_getElem? (i := 39) rfl)
theorem ClA.X2_sizeOf {C : Nat → CP} (h : ClA C) : Cl1 C n_X2_sizeOf tb_X2_sizeOf := h (n_X2_sizeOf, tb_X2_sizeOf) (List.mem_of_getElem? (i := 40) rfl)
theorem ClA.X2_isWithin {C : Nat → CP} (h : ClA C) : Cl1 C n_X2_isWithin tb_X2_isWithin := h (n_X2_isWithin, tb_X2_isWithin) (List.mem_of_getElem? (i := 41) rfl)
theorem ClA.X2_childAt {C : Nat → CP} (h : ClA C) : Cl1 C n_X2_childAt tb_X2_childAt := h (n_X2_childAt, tb_X2_childAt) (List.mem_of_getElem? (i := 42) rfl)
theorem ClA.X2_sumOfKeys {C : Nat → CP} (h : ClA C) : Cl1 C n_X2_sumOfKeys tb_X2_sumOfKeys := h (n_X2_sumOfKeys, tb_X2_sumOfKeys) (List.mem_of_getElem? (i := 43) rfl)
theorem ClA.X3_isKept {C : Nat → CP} (h : ClA C) : Cl1 C n_X3_isKept tb_X3_isKept := h (n_X3_isKept, tb_X3_isKept) (List.mem_of_getElem? (i := 44) rfl)
theorem ClA.X3_store {C : Nat → CP} (h : ClA C) : Cl1 C n_X3_store tb_X3_store := h (n_X3_store, tb_X3_store) (List.mem_of_getElem? (i := 45) rfl)
theorem ClA.X3_restore {C : Nat → CP} (h : ClA C) : Cl1 C n_X3_restore tb_X3_restore := h (n_X3_restore, tb_X3_restore) (List.mem_of_getElem? (i := 46) rfl)
theorem ClA.X4_begin {C : Nat → CP} (h : ClA C) : Cl1 C n_X4_begin tb_X4_begin := h (n_X4_begin, tb_X4_begin) (List.mem_of_getElem? (i := 47) rfl)
theorem ClA.X4_draw {C : Nat → CP} (h : ClA C) : Cl1 C n_X4_draw tb_X4_draw := h (n_X4_draw, tb_X4_draw) (List.mem_of_getElem? (i := 48) rfl)
theorem ClA.X5_layOut {C : Nat → CP} (h : ClA C) : Cl1 C n_X5_layOut tb_X5_layOut := h (n_X5_layOut, tb_X5_layOut) (List.mem_of_getElem? (i := 49) rfl)
theorem ClA.X5_hasRoom {C : Nat → CP} (h : ClA C) : Cl1 C n_X5_hasRoom tb_X5_hasRoom := h (n_X5_hasRoom, tb_X5_hasRoom) (List.mem_of_getElem? (i := 50) rfl)
theorem ClA.X5_hasPlace {C : Nat → CP} (h : ClA C) : Cl1 C n_X5_hasPlace tb_X5_hasPlace := h (n_X5_hasPlace, tb_X5_hasPlace) (List.mem_of_getElem? (i := 51) rfl)
theorem ClA.X5_add {C : Nat → CP} (h : ClA C) : Cl1 C n_X5_add tb_X5_add := h (n_X5_add, tb_X5_add) (List.mem_of_getElem? (i := 52) rfl)
theorem ClA.X5_places {C : Nat → CP} (h : ClA C) : Cl1 C n_X5_places tb_X5_places := h (n_X5_places, tb_X5_places) (List.mem_of_getElem? (i := 53) rfl)
theorem ClA.X5_count {C : Nat → CP} (h : ClA C) : Cl1 C n_X5_count tb_X5_count := h (n_X5_count, tb_X5_count) (List.mem_of_getElem? (i := 54) rfl)
theorem ClA.X5_grow {C : Nat → CP} (h : ClA C) : Cl1 C n_X5_grow tb_X5_grow := h (n_X5_grow, tb_X5_grow) (List.mem_of_getElem? (i := 55) rfl)
theorem ClA.X5_begin {C : Nat → CP} (h : ClA C) : Cl1 C n_X5_begin tb_X5_begin := h (n_X5_begin, tb_X5_begin) (List.mem_of_getElem? (i := 56) rfl)
theorem ClA.X5_spread {C : Nat → CP} (h : ClA C) : Cl1 C n_X5_spread tb_X5_spread := h (n_X5_spread, tb_X5_spread) (List.mem_of_getElem? (i := 57) rfl)
theorem ClA.X5_acrossFrom {C : Nat → CP} (h : ClA C) : Cl1 C n_X5_acrossFrom tb_X5_acrossFrom := h (n_X5_acrossFrom, tb_X5_acrossFrom) (List.mem_of_getElem? (i := 58) rfl)
theorem ClA.X5_isReached {C : Nat → CP} (h : ClA C) : Cl1 C n_X5_isReached tb_X5_isReached := h (n_X5_isReached, tb_X5_isReached) (List.mem_of_getElem? (i := 59) rfl)
theorem ClA.X5_weightOfTree {C : Nat → CP} (h : ClA C) : Cl1 C n_X5_weightOfTree tb_X5_weightOfTree := h (n_X5_weightOfTree, tb_X5_weightOfTree) (List.mem_of_getElem? (i := 60) rfl)
theorem ClA.X5_roadsOfTree {C : Nat → CP} (h : ClA C) : Cl1 C n_X5_roadsOfTree tb_X5_roadsOfTree := h (n_X5_roadsOfTree, tb_X5_roadsOfTree) (List.mem_of_getElem? (i := 61) rfl)
theorem ClA.X5_links {C : Nat → CP} (h : ClA C) : Cl1 C n_X5_links tb_X5_links := h (n_X5_links, tb_X5_links) (List.mem_of_getElem? (i := 62) rfl)
theorem ClA.X5_cuts {C : Nat → CP} (h : ClA C) : Cl1 C n_X5_cuts tb_X5_cuts := h (n_X5_cuts, tb_X5_cuts) (List.mem_of_getElem? (i := 63) rfl)
theorem ClA.X5_lowerings {C : Nat → CP} (h : ClA C) : Cl1 C n_X5_lowerings tb_X5_lowerings := h (n_X5_lowerings, tb_X5_lowerings) (List.mem_of_getElem? (i := 64) rfl)
theorem ClA.X5_distanceTo {C : Nat → CP} (h : ClA C) : Cl1 C n_X5_distanceTo tb_X5_distanceTo := h (n_X5_distanceTo, tb_X5_distanceTo) (List.mem_of_getElem? (i := 65) rfl)
theorem ClA.X5_reachedCount {C : Nat → CP} (h : ClA C) : Cl1 C n_X5_reachedCount tb_X5_reachedCount := h (n_X5_reachedCount, tb_X5_reachedCount) (List.mem_of_getElem? (i := 66) rfl)
theorem ClA.X6_put {C : Nat → CP} (h : ClA C) : Cl1 C n_X6_put tb_X6_put := h (n_X6_put, tb_X6_put) (List.mem_of_getElem? (i := 67) rfl)
theorem ClA.X6_lower {C : Nat → CP} (h : ClA C) : Cl1 C n_X6_lower tb_X6_lower := h (n_X6_lower, tb_X6_lower) (List.mem_of_getElem? (i := 68) rfl)
theorem ClA.X6_take {C : Nat → CP} (h : ClA C) : Cl1 C n_X6_take tb_X6_take := h (n_X6_take, tb_X6_take) (List.mem_of_getElem? (i := 69) rfl)
theorem ClA.X6_drop {C : Nat → CP} (h : ClA C) : Cl1 C n_X6_drop tb_X6_drop := h (n_X6_drop, tb_X6_drop) (List.mem_of_getElem? (i := 70) rfl)
theorem ClA.X6_join {C : Nat → CP} (h : ClA C) : Cl1 C n_X6_join tb_X6_join := h (n_X6_join, tb_X6_join) (List.mem_of_getElem? (i := 71) rfl)
theorem ClA.X6_clear {C : Nat → CP} (h : ClA C) : Cl1 C n_X6_clear tb_X6_clear := h (n_X6_clear, tb_X6_clear) (List.mem_of_getElem? (i := 72) rfl)
theorem ClA.X6_drift {C : Nat → CP} (h : ClA C) : Cl1 C n_X6_drift tb_X6_drift := h (n_X6_drift, tb_X6_drift) (List.mem_of_getElem? (i := 73) rfl)
theorem ClA.X6_told {C : Nat → CP} (h : ClA C) : Cl1 C n_X6_told tb_X6_told := h (n_X6_told, tb_X6_told) (List.mem_of_getElem? (i := 74) rfl)
theorem ClA.X6_job {C : Nat → CP} (h : ClA C) : Cl1 C n_X6_job tb_X6_job := h (n_X6_job, tb_X6_job) (List.mem_of_getElem? (i := 75) rfl)
theorem ClA.X6_child {C : Nat → CP} (h : ClA C) : Cl1 C n_X6_child tb_X6_child := h (n_X6_child, tb_X6_child) (List.mem_of_getElem? (i := 76) rfl)
theorem ClA.X6_loose {C : Nat → CP} (h : ClA C) : Cl1 C n_X6_loose tb_X6_loose := h (n_X6_loose, tb_X6_loose) (List.mem_of_getElem? (i := 77) rfl)
theorem ClA.X6_bits {C : Nat → CP} (h : ClA C) : Cl1 C n_X6_bits tb_X6_bits := h (n_X6_bits, tb_X6_bits) (List.mem_of_getElem? (i := 78) rfl)
theorem ClA.X6_sit {C : Nat → CP} (h : ClA C) : Cl1 C n_X6_sit tb_X6_sit := h (n_X6_sit, tb_X6_sit) (List.mem_of_getElem? (i := 79) rfl)
theorem ClA.X6_sits {C : Nat → CP} (h : ClA C) : Cl1 C n_X6_sits tb_X6_sits := h (n_X6_sits, tb_X6_sits) (List.mem_of_getElem? (i := 80) rfl)
theorem ClA.X6_net {C : Nat → CP} (h : ClA C) : Cl1 C n_X6_net tb_X6_net := h (n_X6_net, tb_X6_net) (List.mem_of_getElem? (i := 81) rfl)
theorem ClA.X6_road {C : Nat → CP} (h : ClA C) : Cl1 C n_X6_road tb_X6_road := h (n_X6_road, tb_X6_road) (List.mem_of_getElem? (i := 82) rfl)
theorem ClA.X6_tree {C : Nat → CP} (h : ClA C) : Cl1 C n_X6_tree tb_X6_tree := h (n_X6_tree, tb_X6_tree) (List.mem_of_getElem? (i := 83) rfl)
theorem ClA.X6_way {C : Nat → CP} (h : ClA C) : Cl1 C n_X6_way tb_X6_way := h (n_X6_way, tb_X6_way) (List.mem_of_getElem? (i := 84) rfl)
theorem ClA.X6_ways {C : Nat → CP} (h : ClA C) : Cl1 C n_X6_ways tb_X6_ways := h (n_X6_ways, tb_X6_ways) (List.mem_of_getElem? (i := 85) rfl)
theorem ClA.X6_keep {C : Nat → CP} (h : ClA C) : Cl1 C n_X6_keep tb_X6_keep := h (n_X6_keep, tb_X6_keep) (List.mem_of_getElem? (i := 86) rfl)
theorem ClA.X6_goBack {C : Nat → CP} (h : ClA C) : Cl1 C n_X6_goBack tb_X6_goBack := h (n_X6_goBack, tb_X6_goBack) (List.mem_of_getElem? (i := 87) rfl)
theorem ClA.X6_driftOnce {C : Nat → CP} (h : ClA C) : Cl1 C n_X6_driftOnce tb_X6_driftOnce := h (n_X6_driftOnce, tb_X6_driftOnce) (List.mem_of_getElem? (i := 88) rfl)
theorem ClA.X6_putByLots {C : Nat → CP} (h : ClA C) : Cl1 C n_X6_putByLots tb_X6_putByLots := h (n_X6_putByLots, tb_X6_putByLots) (List.mem_of_getElem? (i := 89) rfl)
theorem ClA.X6_lowerByLots {C : Nat → CP} (h : ClA C) : Cl1 C n_X6_lowerByLots tb_X6_lowerByLots := h (n_X6_lowerByLots, tb_X6_lowerByLots) (List.mem_of_getElem? (i := 90) rfl)
theorem ClA.X6_takeByLots {C : Nat → CP} (h : ClA C) : Cl1 C n_X6_takeByLots tb_X6_takeByLots := h (n_X6_takeByLots, tb_X6_takeByLots) (List.mem_of_getElem? (i := 91) rfl)
theorem ClA.X6_between {C : Nat → CP} (h : ClA C) : Cl1 C n_X6_between tb_X6_between := h (n_X6_between, tb_X6_between) (List.mem_of_getElem? (i := 92) rfl)
theorem ClA.X6_isKey {C : Nat → CP} (h : ClA C) : Cl1 C n_X6_isKey tb_X6_isKey := h (n_X6_isKey, tb_X6_isKey) (List.mem_of_getElem? (i := 93) rfl)
theorem ClA.X6_flag {C : Nat → CP} (h : ClA C) : Cl1 C n_X6_flag tb_X6_flag := h (n_X6_flag, tb_X6_flag) (List.mem_of_getElem? (i := 94) rfl)
theorem ClA.X7_in {C : Nat → CP} (h : ClA C) : Cl1 C n_X7_in tb_X7_in := h (n_X7_in, tb_X7_in) (List.mem_of_getElem? (i := 95) rfl)
theorem ClA.X7_own {C : Nat → CP} (h : ClA C) : Cl1 C n_X7_own tb_X7_own := h (n_X7_own, tb_X7_own) (List.mem_of_getElem? (i := 96) rfl)
theorem ClA.X7_isSooner {C : Nat → CP} (h : ClA C) : Cl1 C n_X7_isSooner tb_X7_isSooner := h (n_X7_isSooner, tb_X7_isSooner) (List.mem_of_getElem? (i := 97) rfl)
theorem ClA.X7_rank {C : Nat → CP} (h : ClA C) : Cl1 C n_X7_rank tb_X7_rank := h (n_X7_rank, tb_X7_rank) (List.mem_of_getElem? (i := 98) rfl)
theorem ClA.X7_link {C : Nat → CP} (h : ClA C) : Cl1 C n_X7_link tb_X7_link := h (n_X7_link, tb_X7_link) (List.mem_of_getElem? (i := 99) rfl)
theorem ClA.X7_cut {C : Nat → CP} (h : ClA C) : Cl1 C n_X7_cut tb_X7_cut := h (n_X7_cut, tb_X7_cut) (List.mem_of_getElem? (i := 100) rfl)
theorem ClA.X7_isOf {C : Nat → CP} (h : ClA C) : Cl1 C n_X7_isOf tb_X7_isOf := h (n_X7_isOf, tb_X7_isOf) (List.mem_of_getElem? (i := 101) rfl)
theorem ClA.X7_ofRank {C : Nat → CP} (h : ClA C) : Cl1 C n_X7_ofRank tb_X7_ofRank := h (n_X7_ofRank, tb_X7_ofRank) (List.mem_of_getElem? (i := 102) rfl)
theorem ClA.X7_twice {C : Nat → CP} (h : ClA C) : Cl1 C n_X7_twice tb_X7_twice := h (n_X7_twice, tb_X7_twice) (List.mem_of_getElem? (i := 103) rfl)
theorem ClA.X7_settle {C : Nat → CP} (h : ClA C) : Cl1 C n_X7_settle tb_X7_settle := h (n_X7_settle, tb_X7_settle) (List.mem_of_getElem? (i := 104) rfl)
theorem ClA.X7_joinAll {C : Nat → CP} (h : ClA C) : Cl1 C n_X7_joinAll tb_X7_joinAll := h (n_X7_joinAll, tb_X7_joinAll) (List.mem_of_getElem? (i := 105) rfl)
theorem ClA.X7_add {C : Nat → CP} (h : ClA C) : Cl1 C n_X7_add tb_X7_add := h (n_X7_add, tb_X7_add) (List.mem_of_getElem? (i := 106) rfl)
theorem ClA.X7_lowerTo {C : Nat → CP} (h : ClA C) : Cl1 C n_X7_lowerTo tb_X7_lowerTo := h (n_X7_lowerTo, tb_X7_lowerTo) (List.mem_of_getElem? (i := 107) rfl)
theorem ClA.X7_remove {C : Nat → CP} (h : ClA C) : Cl1 C n_X7_remove tb_X7_remove := h (n_X7_remove, tb_X7_remove) (List.mem_of_getElem? (i := 108) rfl)
theorem ClA.X7_soonest {C : Nat → CP} (h : ClA C) : Cl1 C n_X7_soonest tb_X7_soonest := h (n_X7_soonest, tb_X7_soonest) (List.mem_of_getElem? (i := 109) rfl)
theorem ClA.X7_standing {C : Nat → CP} (h : ClA C) : Cl1 C n_X7_standing tb_X7_standing := h (n_X7_standing, tb_X7_standing) (List.mem_of_getElem? (i := 110) rfl)
theorem ClA.X7_isJob {C : Nat → CP} (h : ClA C) : Cl1 C n_X7_isJob tb_X7_isJob := h (n_X7_isJob, tb_X7_isJob) (List.mem_of_getElem? (i := 111) rfl)
theorem ClA.X7_put {C : Nat → CP} (h : ClA C) : Cl1 C n_X7_put tb_X7_put := h (n_X7_put, tb_X7_put) (List.mem_of_getElem? (i := 112) rfl)
theorem ClA.X7_lower {C : Nat → CP} (h : ClA C) : Cl1 C n_X7_lower tb_X7_lower := h (n_X7_lower, tb_X7_lower) (List.mem_of_getElem? (i := 113) rfl)
theorem ClA.X7_take {C : Nat → CP} (h : ClA C) : Cl1 C n_X7_take tb_X7_take := h (n_X7_take, tb_X7_take) (List.mem_of_getElem? (i := 114) rfl)
theorem ClA.X7_drop {C : Nat → CP} (h : ClA C) : Cl1 C n_X7_drop tb_X7_drop := h (n_X7_drop, tb_X7_drop) (List.mem_of_getElem? (i := 115) rfl)
theorem ClA.X7_join {C : Nat → CP} (h : ClA C) : Cl1 C n_X7_join tb_X7_join := h (n_X7_join, tb_X7_join) (List.mem_of_getElem? (i := 116) rfl)
theorem ClA.X7_clear {C : Nat → CP} (h : ClA C) : Cl1 C n_X7_clear tb_X7_clear := h (n_X7_clear, tb_X7_clear) (List.mem_of_getElem? (i := 117) rfl)
theorem ClA.X7_standingAt {C : Nat → CP} (h : ClA C) : Cl1 C n_X7_standingAt tb_X7_standingAt := h (n_X7_standingAt, tb_X7_standingAt) (List.mem_of_getElem? (i := 118) rfl)
theorem ClA.X7_drawn {C : Nat → CP} (h : ClA C) : Cl1 C n_X7_drawn tb_X7_drawn := h (n_X7_drawn, tb_X7_drawn) (List.mem_of_getElem? (i := 119) rfl)
theorem ClA.X7_lot {C : Nat → CP} (h : ClA C) : Cl1 C n_X7_lot tb_X7_lot := h (n_X7_lot, tb_X7_lot) (List.mem_of_getElem? (i := 120) rfl)
theorem ClA.X7_drift {C : Nat → CP} (h : ClA C) : Cl1 C n_X7_drift tb_X7_drift := h (n_X7_drift, tb_X7_drift) (List.mem_of_getElem? (i := 121) rfl)
theorem ClA.X7_depth {C : Nat → CP} (h : ClA C) : Cl1 C n_X7_depth tb_X7_depth := h (n_X7_depth, tb_X7_depth) (List.mem_of_getElem? (i := 122) rfl)
theorem ClA.X7_isUnder {C : Nat → CP} (h : ClA C) : Cl1 C n_X7_isUnder tb_X7_isUnder := h (n_X7_isUnder, tb_X7_isUnder) (List.mem_of_getElem? (i := 123) rfl)
theorem ClA.X7_many {C : Nat → CP} (h : ClA C) : Cl1 C n_X7_many tb_X7_many := h (n_X7_many, tb_X7_many) (List.mem_of_getElem? (i := 124) rfl)
theorem ClA.X7_told {C : Nat → CP} (h : ClA C) : Cl1 C n_X7_told tb_X7_told := h (n_X7_told, tb_X7_told) (List.mem_of_getElem? (i := 125) rfl)
theorem ClA.X7_under {C : Nat → CP} (h : ClA C) : Cl1 C n_X7_under tb_X7_under := h (n_X7_under, tb_X7_under) (List.mem_of_getElem? (i := 126) rfl)
theorem ClA.X7_power {C : Nat → CP} (h : ClA C) : Cl1 C n_X7_power tb_X7_power := h (n_X7_power, tb_X7_power) (List.mem_of_getElem? (i := 127) rfl)
theorem ClA.X7_bitsOf {C : Nat → CP} (h : ClA C) : Cl1 C n_X7_bitsOf tb_X7_bitsOf := h (n_X7_bitsOf, tb_X7_bitsOf) (List.mem_of_getElem? (i := 128) rfl)
theorem ClA.X7_job {C : Nat → CP} (h : ClA C) : Cl1 C n_X7_job tb_X7_job := h (n_X7_job, tb_X7_job) (List.mem_of_getElem? (i := 129) rfl)
theorem ClA.X7_child {C : Nat → CP} (h : ClA C) : Cl1 C n_X7_child tb_X7_child := h (n_X7_child, tb_X7_child) (List.mem_of_getElem? (i := 130) rfl)
theorem ClA.X7_loose {C : Nat → CP} (h : ClA C) : Cl1 C n_X7_loose tb_X7_loose := h (n_X7_loose, tb_X7_loose) (List.mem_of_getElem? (i := 131) rfl)
theorem ClA.X7_bits {C : Nat → CP} (h : ClA C) : Cl1 C n_X7_bits tb_X7_bits := h (n_X7_bits, tb_X7_bits) (List.mem_of_getElem? (i := 132) rfl)
theorem ClA.X7_sit {C : Nat → CP} (h : ClA C) : Cl1 C n_X7_sit tb_X7_sit := h (n_X7_sit, tb_X7_sit) (List.mem_of_getElem? (i := 133) rfl)
theorem ClA.X7_sits {C : Nat → CP} (h : ClA C) : Cl1 C n_X7_sits tb_X7_sits := h (n_X7_sits, tb_X7_sits) (List.mem_of_getElem? (i := 134) rfl)
theorem ClA.X7_net {C : Nat → CP} (h : ClA C) : Cl1 C n_X7_net tb_X7_net := h (n_X7_net, tb_X7_net) (List.mem_of_getElem? (i := 135) rfl)
theorem ClA.X7_isPlace {C : Nat → CP} (h : ClA C) : Cl1 C n_X7_isPlace tb_X7_isPlace := h (n_X7_isPlace, tb_X7_isPlace) (List.mem_of_getElem? (i := 136) rfl)
theorem ClA.X7_road {C : Nat → CP} (h : ClA C) : Cl1 C n_X7_road tb_X7_road := h (n_X7_road, tb_X7_road) (List.mem_of_getElem? (i := 137) rfl)
theorem ClA.X7_goFrom {C : Nat → CP} (h : ClA C) : Cl1 C n_X7_goFrom tb_X7_goFrom := h (n_X7_goFrom, tb_X7_goFrom) (List.mem_of_getElem? (i := 138) rfl)
theorem ClA.X7_lay {C : Nat → CP} (h : ClA C) : Cl1 C n_X7_lay tb_X7_lay := h (n_X7_lay, tb_X7_lay) (List.mem_of_getElem? (i := 139) rfl)
theorem ClA.X7_hanging {C : Nat → CP} (h : ClA C) : Cl1 C n_X7_hanging tb_X7_hanging := h (n_X7_hanging, tb_X7_hanging) (List.mem_of_getElem? (i := 140) rfl)
theorem ClA.X7_tree {C : Nat → CP} (h : ClA C) : Cl1 C n_X7_tree tb_X7_tree := h (n_X7_tree, tb_X7_tree) (List.mem_of_getElem? (i := 141) rfl)
theorem ClA.X7_way {C : Nat → CP} (h : ClA C) : Cl1 C n_X7_way tb_X7_way := h (n_X7_way, tb_X7_way) (List.mem_of_getElem? (i := 142) rfl)
theorem ClA.X7_ways {C : Nat → CP} (h : ClA C) : Cl1 C n_X7_ways tb_X7_ways := h (n_X7_ways, tb_X7_ways) (List.mem_of_getElem? (i := 143) rfl)
theorem ClA.X7_keep {C : Nat → CP} (h : ClA C) : Cl1 C n_X7_keep tb_X7_keep := h (n_X7_keep, tb_X7_keep) (List.mem_of_getElem? (i := 144) rfl)
theorem ClA.X7_goBack {C : Nat → CP} (h : ClA C) : Cl1 C n_X7_goBack tb_X7_goBack := h (n_X7_goBack, tb_X7_goBack) (List.mem_of_getElem? (i := 145) rfl)
theorem ClA.J7_fill_53178 {C : Nat → CP} (h : ClA C) : Cl1 C n_J7_fill_53178 tb_J7_fill_53178 := h (n_J7_fill_53178, tb_J7_fill_53178) (List.mem_of_getElem? (i := 146) rfl)
theorem ct_all {G : GX} (hAp : Ap G) : ClA (Ct G mts) := by
  unfold ClA allTb
  refine fa_c (cl_X0_empty hAp) ?_
  refine fa_c (cl_X0_copyFrom hAp) ?_
  refine fa_c (cl_X0_sitter hAp) ?_
  refine fa_c (cl_X0_seat hAp) ?_
  refine fa_c (cl_X1_bitsOf hAp) ?_
  refine fa_c (cl_X2_empty hAp) ?_
  refine fa_c (cl_X2_copyFrom hAp) ?_
  refine fa_c (cl_X2_hasRoom hAp) ?_
  refine fa_c (cl_X2_has hAp) ?_
  refine fa_c (cl_X2_add hAp) ?_
  refine fa_c (cl_X2_lowerTo hAp) ?_
  refine fa_c (cl_X2_takeOut hAp) ?_
  refine fa_c (cl_X2_joinAll hAp) ?_
  refine fa_c (cl_X2_settleAll hAp) ?_
  refine fa_c (cl_X2_findPair hAp) ?_
  refine fa_c (cl_X2_linkTwo hAp) ?_
  refine fa_c (cl_X2_cutOff hAp) ?_
  refine fa_c (cl_X2_freeChildren hAp) ?_
  refine fa_c (cl_X2_makeRoot hAp) ?_
  refine fa_c (cl_X2_besideBefore hAp) ?_
  refine fa_c (cl_X2_isSooner hAp) ?_
  refine fa_c (cl_X2_isRoot hAp) ?_
  refine fa_c (cl_X2_count hAp) ?_
  refine fa_c (cl_X2_links hAp) ?_
  refine fa_c (cl_X2_cuts hAp) ?_
  refine fa_c (cl_X2_kindOf hAp) ?_
  refine fa_c (cl_X2_keyOf hAp) ?_
  refine fa_c (cl_X2_aboveOf hAp) ?_
  refine fa_c (cl_X2_rankOf hAp) ?_
  refine fa_c (cl_X2_isStanding hAp) ?_
  refine fa_c (cl_X2_isLoose hAp) ?_
  refine fa_c (cl_X2_soonest hAp) ?_
  refine fa_c (cl_X2_standingCount hAp) ?_
  refine fa_c (cl_X2_standingAt hAp) ?_
  refine fa_c (cl_X2_rootCount hAp) ?_
  refine fa_c (cl_X2_looseCount hAp) ?_
  refine fa_c (cl_X2_looseOfRank hAp) ?_
  refine fa_c (cl_X2_greatestRank hAp) ?_
  refine fa_c (cl_X2_longestRow hAp) ?_
  refine fa_c (cl_X2_depthOf hAp) ?_
  refine fa_c (cl_X2_sizeOf hAp) ?_
  refine fa_c (cl_X2_isWithin hAp) ?_
  refine fa_c (cl_X2_childAt hAp) ?_
  refine fa_c (cl_X2_sumOfKeys hAp) ?_
  refine fa_c (cl_X3_isKept hAp) ?_
  refine fa_c (cl_X3_store hAp) ?_
  refine fa_c (cl_X3_restore hAp) ?_
  refine fa_c (cl_X4_begin hAp) ?_
  refine fa_c (cl_X4_draw hAp) ?_
  refine fa_c (cl_X5_layOut hAp) ?_
  refine fa_c (cl_X5_hasRoom hAp) ?_
  refine fa_c (cl_X5_hasPlace hAp) ?_
  refine fa_c (cl_X5_add hAp) ?_
  refine fa_c (cl_X5_places hAp) ?_
  refine fa_c (cl_X5_count hAp) ?_
  refine fa_c (cl_X5_grow hAp) ?_
  refine fa_c (cl_X5_begin hAp) ?_
  refine fa_c (cl_X5_spread hAp) ?_
  refine fa_c (cl_X5_acrossFrom hAp) ?_
  refine fa_c (cl_X5_isReached hAp) ?_
  refine fa_c (cl_X5_weightOfTree hAp) ?_
  refine fa_c (cl_X5_roadsOfTree hAp) ?_
  refine fa_c (cl_X5_links hAp) ?_
  refine fa_c (cl_X5_cuts hAp) ?_
  refine fa_c (cl_X5_lowerings hAp) ?_
  refine fa_c (cl_X5_distanceTo hAp) ?_
  refine fa_c (cl_X5_reachedCount hAp) ?_
  refine fa_c (cl_X6_put hAp) ?_
  refine fa_c (cl_X6_lower hAp) ?_
  refine fa_c (cl_X6_take hAp) ?_
  refine fa_c (cl_X6_drop hAp) ?_
  refine fa_c (cl_X6_join hAp) ?_
  refine fa_c (cl_X6_clear hAp) ?_
  refine fa_c (cl_X6_drift hAp) ?_
  refine fa_c (cl_X6_told hAp) ?_
  refine fa_c (cl_X6_job hAp) ?_
  refine fa_c (cl_X6_child hAp) ?_
  refine fa_c (cl_X6_loose hAp) ?_
  refine fa_c (cl_X6_bits hAp) ?_
  refine fa_c (cl_X6_sit hAp) ?_
  refine fa_c (cl_X6_sits hAp) ?_
  refine fa_c (cl_X6_net hAp) ?_
  refine fa_c (cl_X6_road hAp) ?_
  refine fa_c (cl_X6_tree hAp) ?_
  refine fa_c (cl_X6_way hAp) ?_
  refine fa_c (cl_X6_ways hAp) ?_
  refine fa_c (cl_X6_keep hAp) ?_
  refine fa_c (cl_X6_goBack hAp) ?_
  refine fa_c (cl_X6_driftOnce hAp) ?_
  refine fa_c (cl_X6_putByLots hAp) ?_
  refine fa_c (cl_X6_lowerByLots hAp) ?_
  refine fa_c (cl_X6_takeByLots hAp) ?_
  refine fa_c (cl_X6_between hAp) ?_
  refine fa_c (cl_X6_isKey hAp) ?_
  refine fa_c (cl_X6_flag hAp) ?_
  refine fa_c (cl_X7_in hAp) ?_
  refine fa_c (cl_X7_own hAp) ?_
  refine fa_c (cl_X7_isSooner hAp) ?_
  refine fa_c (cl_X7_rank hAp) ?_
  refine fa_c (cl_X7_link hAp) ?_
  refine fa_c (cl_X7_cut hAp) ?_
  refine fa_c (cl_X7_isOf hAp) ?_
  refine fa_c (cl_X7_ofRank hAp) ?_
  refine fa_c (cl_X7_twice hAp) ?_
  refine fa_c (cl_X7_settle hAp) ?_
  refine fa_c (cl_X7_joinAll hAp) ?_
  refine fa_c (cl_X7_add hAp) ?_
  refine fa_c (cl_X7_lowerTo hAp) ?_
  refine fa_c (cl_X7_remove hAp) ?_
  refine fa_c (cl_X7_soonest hAp) ?_
  refine fa_c (cl_X7_standing hAp) ?_
  refine fa_c (cl_X7_isJob hAp) ?_
  refine fa_c (cl_X7_put hAp) ?_
  refine fa_c (cl_X7_lower hAp) ?_
  refine fa_c (cl_X7_take hAp) ?_
  refine fa_c (cl_X7_drop hAp) ?_
  refine fa_c (cl_X7_join hAp) ?_
  refine fa_c (cl_X7_clear hAp) ?_
  refine fa_c (cl_X7_standingAt hAp) ?_
  refine fa_c (cl_X7_drawn hAp) ?_
  refine fa_c (cl_X7_lot hAp) ?_
  refine fa_c (cl_X7_drift hAp) ?_
  refine fa_c (cl_X7_depth hAp) ?_
  refine fa_c (cl_X7_isUnder hAp) ?_
  refine fa_c (cl_X7_many hAp) ?_
  refine fa_c (cl_X7_told hAp) ?_
  refine fa_c (cl_X7_under hAp) ?_
  refine fa_c (cl_X7_power hAp) ?_
  refine fa_c (cl_X7_bitsOf hAp) ?_
  refine fa_c (cl_X7_job hAp) ?_
  refine fa_c (cl_X7_child hAp) ?_
  refine fa_c (cl_X7_loose hAp) ?_
  refine fa_c (cl_X7_bits hAp) ?_
  refine fa_c (cl_X7_sit hAp) ?_
  refine fa_c (cl_X7_sits hAp) ?_
  refine fa_c (cl_X7_net hAp) ?_
  refine fa_c (cl_X7_isPlace hAp) ?_
  refine fa_c (cl_X7_road hAp) ?_
  refine fa_c (cl_X7_goFrom hAp) ?_
  refine fa_c (cl_X7_lay hAp) ?_
  refine fa_c (cl_X7_hanging hAp) ?_
  refine fa_c (cl_X7_tree hAp) ?_
  refine fa_c (cl_X7_way hAp) ?_
  refine fa_c (cl_X7_ways hAp) ?_
  refine fa_c (cl_X7_keep hAp) ?_
  refine fa_c (cl_X7_goBack hAp) ?_
  refine fa_c (cl_J7_fill_53178 hAp) ?_
  exact fun e he => absurd he List.not_mem_nil
