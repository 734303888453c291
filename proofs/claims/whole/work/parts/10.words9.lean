theorem zin_0 : ∀ w ∈ u_ws RX0 TX0 14, w ∈ zgw := by decide +kernel
theorem zC0 : zCok 0 RX0 TX0 14 tyX0 := ⟨rfl, zin_0, tyX0_ok, nmX0, rfl, by decide⟩
theorem zdf0 : ∀ j, j < 14 → defaultValue (tyX0 j) = if zTR 0 j = true then Value.null else .int 0 := by decide +kernel
theorem zin_1 : ∀ w ∈ u_ws RX1 TX1 1, w ∈ zgw := by decide +kernel
theorem zC1 : zCok 1 RX1 TX1 1 tyX1 := ⟨rfl, zin_1, tyX1_ok, nmX1, rfl, by decide⟩
theorem zdf1 : ∀ j, j < 1 → defaultValue (tyX1 j) = if zTR 1 j = true then Value.null else .int 0 := by decide +kernel
theorem zin_2 : ∀ w ∈ u_ws RX2 TX2 4, w ∈ zgw := by decide +kernel
theorem zC2 : zCok 2 RX2 TX2 4 tyX2 := ⟨rfl, zin_2, tyX2_ok, nmX2, rfl, by decide⟩
theorem zdf2 : ∀ j, j < 4 → defaultValue (tyX2 j) = if zTR 2 j = true then Value.null else .int 0 := by decide +kernel
theorem zin_3 : ∀ w ∈ u_ws RX3 TX3 4, w ∈ zgw := by decide +kernel
theorem zC3 : zCok 3 RX3 TX3 4 tyX3 := ⟨rfl, zin_3, tyX3_ok, nmX3, rfl, by decide⟩
theorem zdf3 : ∀ j, j < 4 → defaultValue (tyX3 j) = if zTR 3 j = true then Value.null else .int 0 := by decide +kernel
theorem zin_4 : ∀ w ∈ u_ws RX4 TX4 4, w ∈ zgw := by decide +kernel
theorem zC4 : zCok 4 RX4 TX4 4 tyX4 := ⟨rfl, zin_4, tyX4_ok, nmX4, rfl, by decide⟩
theorem zdf4 : ∀ j, j < 4 → defaultValue (tyX4 j) = if zTR 4 j = true then Value.null else .int 0 := by decide +kernel
theorem zin_5 : ∀ w ∈ u_ws RX5 TX5 4, w ∈ zgw := by decide +kernel
theorem zC5 : zCok 5 RX5 TX5 4 tyX5 := ⟨rfl, zin_5, tyX5_ok, nmX5, rfl, by decide⟩
theorem zdf5 : ∀ j, j < 4 → defaultValue (tyX5 j) = if zTR 5 j = true then Value.null else .int 0 := by decide +kernel
theorem zin_6 : ∀ w ∈ u_ws RX6 TX6 6, w ∈ zgw := by decide +kernel
theorem zC6 : zCok 6 RX6 TX6 6 tyX6 := ⟨rfl, zin_6, tyX6_ok, nmX6, rfl, by decide⟩
theorem zdf6 : ∀ j, j < 6 → defaultValue (tyX6 j) = if zTR 6 j = true then Value.null else .int 0 := by decide +kernel
theorem zin_7 : ∀ w ∈ u_ws RX7 TX7 2, w ∈ zgw := by decide +kernel
theorem zC7 : zCok 7 RX7 TX7 2 tyX7 := ⟨rfl, zin_7, tyX7_ok, nmX7, rfl, by decide⟩
theorem zdf7 : ∀ j, j < 2 → defaultValue (tyX7 j) = if zTR 7 j = true then Value.null else .int 0 := by decide +kernel
theorem zin_8 : ∀ w ∈ u_ws RX8 TX8 2, w ∈ zgw := by decide +kernel
theorem zC8 : zCok 8 RX8 TX8 2 tyX8 := ⟨rfl, zin_8, tyX8_ok, nmX8, rfl, by decide⟩
theorem zdf8 : ∀ j, j < 2 → defaultValue (tyX8 j) = if zTR 8 j = true then Value.null else .int 0 := by decide +kernel
theorem zin_9 : ∀ w ∈ u_ws RX9 TX9 2, w ∈ zgw := by decide +kernel
theorem zC9 : zCok 9 RX9 TX9 2 tyX9 := ⟨rfl, zin_9, tyX9_ok, nmX9, rfl, by decide⟩
theorem zdf9 : ∀ j, j < 2 → defaultValue (tyX9 j) = if zTR 9 j = true then Value.null else .int 0 := by decide +kernel
theorem zin_10 : ∀ w ∈ u_ws RX10 TX10 17, w ∈ zgw := by decide +kernel
theorem zC10 : zCok 10 RX10 TX10 17 tyX10 := ⟨rfl, zin_10, tyX10_ok, nmX10, rfl, by decide⟩
theorem zdf10 : ∀ j, j < 17 → defaultValue (tyX10 j) = if zTR 10 j = true then Value.null else .int 0 := by decide +kernel
theorem zin_11 : ∀ w ∈ u_ws RX11 TX11 44, w ∈ zgw := by decide +kernel
theorem zC11 : zCok 11 RX11 TX11 44 tyX11 := ⟨rfl, zin_11, tyX11_ok, nmX11, rfl, by decide⟩
theorem zdf11 : ∀ j, j < 44 → defaultValue (tyX11 j) = if zTR 11 j = true then Value.null else .int 0 := by decide +kernel
abbrev YX10_init : zY := (yX10_init, RX10, cX10_init, 2, none, fun _ => True)
theorem zyX10_init : zYok YX10_init 0 := ⟨⟨by decide +kernel, by decide +kernel, by decide +kernel⟩, wc_yX10_init, wi_RX10, by decide⟩
abbrev YX2_init : zY := (yX2_init, RX2, cX2_init, 2, none, fun _ => True)
theorem zyX2_init : zYok YX2_init 0 := ⟨⟨by decide +kernel, by decide +kernel, by decide +kernel⟩, wc_yX2_init, wi_RX2, by decide⟩
abbrev YX1_init : zY := (yX1_init, RX1, cX1_init, 1, none, fun _ => True)
theorem zyX1_init : zYok YX1_init 0 := ⟨⟨by decide +kernel, by decide +kernel, by decide +kernel⟩, wc_yX1_init, wi_RX1, by decide⟩
abbrev YX7_init : zY := (yX7_init, RX7, cX7_init, 2, none, fun _ => True)
theorem zyX7_init : zYok YX7_init 1 := ⟨⟨by decide +kernel, by decide +kernel, by decide +kernel⟩, wc_yX7_init, wi_RX7, by decide⟩
abbrev YX6_init : zY := (yX6_init, RX6, cX6_init, 1, none, fun _ => True)
theorem zyX6_init : zYok YX6_init 0 := ⟨⟨by decide +kernel, by decide +kernel, by decide +kernel⟩, wc_yX6_init, wi_RX6, by decide⟩
abbrev YX9_init : zY := (yX9_init, RX9, cX9_init, 1, none, fun _ => True)
theorem zyX9_init : zYok YX9_init 0 := ⟨⟨by decide +kernel, by decide +kernel, by decide +kernel⟩, wc_yX9_init, wi_RX9, by decide⟩
abbrev YX4_init : zY := (yX4_init, RX4, cX4_init, 1, none, fun _ => True)
theorem zyX4_init : zYok YX4_init 0 := ⟨⟨by decide +kernel, by decide +kernel, by decide +kernel⟩, wc_yX4_init, wi_RX4, by decide⟩
abbrev YX0_init : zY := (yX0_init, RX0, cX0_init, 1, none, fun _ => True)
theorem zyX0_init : zYok YX0_init 0 := ⟨⟨by decide +kernel, by decide +kernel, by decide +kernel⟩, wc_yX0_init, wi_RX0, by decide⟩
abbrev YX8_init : zY := (yX8_init, RX8, cX8_init, 1, none, fun _ => True)
theorem zyX8_init : zYok YX8_init 0 := ⟨⟨by decide +kernel, by decide +kernel, by decide +kernel⟩, wc_yX8_init, wi_RX8, by decide⟩
abbrev YX5_init : zY := (yX5_init, RX5, cX5_init, 1, none, fun _ => True)
theorem zyX5_init : zYok YX5_init 0 := ⟨⟨by decide +kernel, by decide +kernel, by decide +kernel⟩, wc_yX5_init, wi_RX5, by decide⟩
abbrev YX3_init : zY := (yX3_init, RX3, cX3_init, 1, none, fun _ => True)
theorem zyX3_init : zYok YX3_init 0 := ⟨⟨by decide +kernel, by decide +kernel, by decide +kernel⟩, wc_yX3_init, wi_RX3, by decide⟩
abbrev YX10_addEdge : zY := (yX10_addEdge, RX10, cX10_addEdge, 5, some (.int), fun _ => True)
theorem zyX10_addEdge : zYok YX10_addEdge 4 := ⟨⟨by decide +kernel, by decide +kernel, by decide +kernel⟩, wc_yX10_addEdge, wi_RX10, by decide⟩
abbrev YX10_isEdgeOfSlot : zY := (yX10_isEdgeOfSlot, RX10, cX10_isEdgeOfSlot, 4, some (.boolean), fun _ => True)
theorem zyX10_isEdgeOfSlot : zYok YX10_isEdgeOfSlot 4 := ⟨⟨by decide +kernel, by decide +kernel, by decide +kernel⟩, wc_yX10_isEdgeOfSlot, wi_RX10, by decide⟩
abbrev YX10_isSlot : zY := (yX10_isSlot, RX10, cX10_isSlot, 1, some (.boolean), fun _ => True)
theorem zyX10_isSlot : zYok YX10_isSlot 1 := ⟨⟨by decide +kernel, by decide +kernel, by decide +kernel⟩, wc_yX10_isSlot, wi_RX10, by decide⟩
abbrev YX10_isVertex : zY := (yX10_isVertex, RX10, cX10_isVertex, 1, some (.boolean), fun _ => True)
theorem zyX10_isVertex : zYok YX10_isVertex 1 := ⟨⟨by decide +kernel, by decide +kernel, by decide +kernel⟩, wc_yX10_isVertex, wi_RX10, by decide⟩
abbrev YX10_isLetter : zY := (yX10_isLetter, RX10, cX10_isLetter, 1, some (.boolean), fun _ => True)
theorem zyX10_isLetter : zYok YX10_isLetter 1 := ⟨⟨by decide +kernel, by decide +kernel, by decide +kernel⟩, wc_yX10_isLetter, wi_RX10, by decide⟩
abbrev YX2_push : zY := (yX2_push, RX2, cX2_push, 3, none, fun _ => True)
theorem zyX2_push : zYok YX2_push 2 := ⟨⟨by decide +kernel, by decide +kernel, by decide +kernel⟩, wc_yX2_push, wi_RX2, by decide⟩
abbrev YX10_isWithin : zY := (yX10_isWithin, RX10, cX10_isWithin, 3, some (.boolean), fun _ => True)
theorem zyX10_isWithin : zYok YX10_isWithin 3 := ⟨⟨by decide +kernel, by decide +kernel, by decide +kernel⟩, wc_yX10_isWithin, wi_RX10, by decide⟩
abbrev YX1_copyOf : zY := (yX1_copyOf, RX1, cX1_copyOf, 2, none, fun _ => True)
theorem zyX1_copyOf : zYok YX1_copyOf 1 := ⟨⟨by decide +kernel, by decide +kernel, by decide +kernel⟩, wc_yX1_copyOf, wi_RX1, by decide⟩
abbrev YX1_put : zY := (yX1_put, RX1, cX1_put, 4, none, fun _ => True)
theorem zyX1_put : zYok YX1_put 3 := ⟨⟨by decide +kernel, by decide +kernel, by decide +kernel⟩, wc_yX1_put, wi_RX1, by decide⟩
abbrev YX1_link : zY := (yX1_link, RX1, cX1_link, 4, none, fun _ => True)
theorem zyX1_link : zYok YX1_link 3 := ⟨⟨by decide +kernel, by decide +kernel, by decide +kernel⟩, wc_yX1_link, wi_RX1, by decide⟩
abbrev YX1_countEdges : zY := (yX1_countEdges, RX1, cX1_countEdges, 3, some (.int), fun _ => True)
theorem zyX1_countEdges : zYok YX1_countEdges 0 := ⟨⟨by decide +kernel, by decide +kernel, by decide +kernel⟩, wc_yX1_countEdges, wi_RX1, by decide⟩
abbrev YJ6_bitCount_0f7a4 : zY := (yJ6_bitCount_0f7a4, RJ6, cJ6_bitCount_0f7a4, 1, some (.int), fun _ => True)
theorem zyJ6_bitCount_0f7a4 : zYok YJ6_bitCount_0f7a4 1 := ⟨⟨by decide +kernel, by decide +kernel, by decide +kernel⟩, wc_yJ6_bitCount_0f7a4, wi_RJ6, by decide⟩
abbrev YX10_removeEdge : zY := (yX10_removeEdge, RX10, cX10_removeEdge, 5, some (.int), fun _ => True)
theorem zyX10_removeEdge : zYok YX10_removeEdge 4 := ⟨⟨by decide +kernel, by decide +kernel, by decide +kernel⟩, wc_yX10_removeEdge, wi_RX10, by decide⟩
abbrev YX1_has : zY := (yX1_has, RX1, cX1_has, 4, some (.boolean), fun _ => True)
theorem zyX1_has : zYok YX1_has 3 := ⟨⟨by decide +kernel, by decide +kernel, by decide +kernel⟩, wc_yX1_has, wi_RX1, by decide⟩
abbrev YX1_row : zY := (yX1_row, RX1, cX1_row, 4, some (.int), fun _ => True)
theorem zyX1_row : zYok YX1_row 2 := ⟨⟨by decide +kernel, by decide +kernel, by decide +kernel⟩, wc_yX1_row, wi_RX1, by decide⟩
abbrev YX1_drop : zY := (yX1_drop, RX1, cX1_drop, 4, none, fun _ => True)
theorem zyX1_drop : zYok YX1_drop 3 := ⟨⟨by decide +kernel, by decide +kernel, by decide +kernel⟩, wc_yX1_drop, wi_RX1, by decide⟩
abbrev YX10_targets : zY := (yX10_targets, RX10, cX10_targets, 4, some (.int), fun _ => True)
theorem zyX10_targets : zYok YX10_targets 3 := ⟨⟨by decide +kernel, by decide +kernel, by decide +kernel⟩, wc_yX10_targets, wi_RX10, by decide⟩
abbrev YX10_edges : zY := (yX10_edges, RX10, cX10_edges, 2, some (.int), fun _ => True)
theorem zyX10_edges : zYok YX10_edges 1 := ⟨⟨by decide +kernel, by decide +kernel, by decide +kernel⟩, wc_yX10_edges, wi_RX10, by decide⟩
abbrev YX10_feed : zY := (yX10_feed, RX10, cX10_feed, 2, some (.int), fun _ => True)
theorem zyX10_feed : zYok YX10_feed 1 := ⟨⟨by decide +kernel, by decide +kernel, by decide +kernel⟩, wc_yX10_feed, wi_RX10, by decide⟩
abbrev YX7_add : zY := (yX7_add, RX7, cX7_add, 2, some (.boolean), fun _ => True)
theorem zyX7_add : zYok YX7_add 1 := ⟨⟨by decide +kernel, by decide +kernel, by decide +kernel⟩, wc_yX7_add, wi_RX7, by decide⟩
abbrev YX7_length : zY := (yX7_length, RX7, cX7_length, 1, some (.int), fun _ => True)
theorem zyX7_length : zYok YX7_length 0 := ⟨⟨by decide +kernel, by decide +kernel, by decide +kernel⟩, wc_yX7_length, wi_RX7, by decide⟩
abbrev YX10_parse : zY := (yX10_parse, RX10, cX10_parse, 3, some (.int), fun _ => True)
theorem zyX10_parse : zYok YX10_parse 1 := ⟨⟨by decide +kernel, by decide +kernel, by decide +kernel⟩, wc_yX10_parse, wi_RX10, by decide⟩
abbrev YX10_readGraph : zY := (yX10_readGraph, RX10, cX10_readGraph, 6, some (.int), fun _ => True)
theorem zyX10_readGraph : zYok YX10_readGraph 0 := ⟨⟨by decide +kernel, by decide +kernel, by decide +kernel⟩, wc_yX10_readGraph, wi_RX10, by decide⟩
abbrev YX1_clear : zY := (yX1_clear, RX1, cX1_clear, 1, none, fun _ => True)
theorem zyX1_clear : zYok YX1_clear 0 := ⟨⟨by decide +kernel, by decide +kernel, by decide +kernel⟩, wc_yX1_clear, wi_RX1, by decide⟩
abbrev YJ7_fill_53178 : zY := (yJ7_fill_53178, RJ7, cJ7_fill_53178, 4, none, fun _ => True)
theorem zyJ7_fill_53178 : zYok YJ7_fill_53178 2 := ⟨⟨by decide +kernel, by decide +kernel, by decide +kernel⟩, wc_yJ7_fill_53178, wi_RJ7, by decide⟩
abbrev YX7_at : zY := (yX7_at, RX7, cX7_at, 2, some (.int), fun _ => True)
theorem zyX7_at : zYok YX7_at 1 := ⟨⟨by decide +kernel, by decide +kernel, by decide +kernel⟩, wc_yX7_at, wi_RX7, by decide⟩
abbrev YX10_fitsInGraph : zY := (yX10_fitsInGraph, RX10, cX10_fitsInGraph, 2, some (.boolean), fun _ => True)
theorem zyX10_fitsInGraph : zYok YX10_fitsInGraph 2 := ⟨⟨by decide +kernel, by decide +kernel, by decide +kernel⟩, wc_yX10_fitsInGraph, wi_RX10, by decide⟩
abbrev YX7_clear : zY := (yX7_clear, RX7, cX7_clear, 1, none, fun _ => True)
theorem zyX7_clear : zYok YX7_clear 0 := ⟨⟨by decide +kernel, by decide +kernel, by decide +kernel⟩, wc_yX7_clear, wi_RX7, by decide⟩
abbrev YX10_storeFresh : zY := (yX10_storeFresh, RX10, cX10_storeFresh, 2, none, fun _ => True)
theorem zyX10_storeFresh : zYok YX10_storeFresh 1 := ⟨⟨by decide +kernel, by decide +kernel, by decide +kernel⟩, wc_yX10_storeFresh, wi_RX10, by decide⟩
abbrev YX10_random : zY := (yX10_random, RX10, cX10_random, 8, some (.int), fun _ => True)
theorem zyX10_random : zYok YX10_random 3 := ⟨⟨by decide +kernel, by decide +kernel, by decide +kernel⟩, wc_yX10_random, wi_RX10, by decide⟩
abbrev YX10_nextDraw : zY := (yX10_nextDraw, RX10, cX10_nextDraw, 1, some (.int), fun _ => True)
theorem zyX10_nextDraw : zYok YX10_nextDraw 1 := ⟨⟨by decide +kernel, by decide +kernel, by decide +kernel⟩, wc_yX10_nextDraw, wi_RX10, by decide⟩
abbrev YX10_essential : zY := (yX10_essential, RX10, cX10_essential, 2, some (.int), fun _ => True)
theorem zyX10_essential : zYok YX10_essential 1 := ⟨⟨by decide +kernel, by decide +kernel, by decide +kernel⟩, wc_yX10_essential, wi_RX10, by decide⟩
abbrev YX1_core : zY := (yX1_core, RX1, cX1_core, 5, some (.int), fun _ => True)
theorem zyX1_core : zYok YX1_core 0 := ⟨⟨by decide +kernel, by decide +kernel, by decide +kernel⟩, wc_yX1_core, wi_RX1, by decide⟩
abbrev YX1_followAny : zY := (yX1_followAny, RX1, cX1_followAny, 4, some (.int), fun _ => True)
theorem zyX1_followAny : zYok YX1_followAny 1 := ⟨⟨by decide +kernel, by decide +kernel, by decide +kernel⟩, wc_yX1_followAny, wi_RX1, by decide⟩
abbrev YX1_exits : zY := (yX1_exits, RX1, cX1_exits, 4, some (.int), fun _ => True)
theorem zyX1_exits : zYok YX1_exits 1 := ⟨⟨by decide +kernel, by decide +kernel, by decide +kernel⟩, wc_yX1_exits, wi_RX1, by decide⟩
abbrev YX1_verticesInto : zY := (yX1_verticesInto, RX1, cX1_verticesInto, 4, some (.int), fun _ => True)
theorem zyX1_verticesInto : zYok YX1_verticesInto 1 := ⟨⟨by decide +kernel, by decide +kernel, by decide +kernel⟩, wc_yX1_verticesInto, wi_RX1, by decide⟩
abbrev YX10_isIrreducible : zY := (yX10_isIrreducible, RX10, cX10_isIrreducible, 2, some (.int), fun _ => True)
theorem zyX10_isIrreducible : zYok YX10_isIrreducible 1 := ⟨⟨by decide +kernel, by decide +kernel, by decide +kernel⟩, wc_yX10_isIrreducible, wi_RX10, by decide⟩
abbrev YX1_copyCoreOf : zY := (yX1_copyCoreOf, RX1, cX1_copyCoreOf, 6, none, fun _ => True)
theorem zyX1_copyCoreOf : zYok YX1_copyCoreOf 1 := ⟨⟨by decide +kernel, by decide +kernel, by decide +kernel⟩, wc_yX1_copyCoreOf, wi_RX1, by decide⟩
abbrev YX1_isStronglyConnected : zY := (yX1_isStronglyConnected, RX1, cX1_isStronglyConnected, 5, some (.boolean), fun _ => True)
theorem zyX1_isStronglyConnected : zYok YX1_isStronglyConnected 0 := ⟨⟨by decide +kernel, by decide +kernel, by decide +kernel⟩, wc_yX1_isStronglyConnected, wi_RX1, by decide⟩
abbrev YX10_period : zY := (yX10_period, RX10, cX10_period, 2, some (.int), fun _ => True)
theorem zyX10_period : zYok YX10_period 1 := ⟨⟨by decide +kernel, by decide +kernel, by decide +kernel⟩, wc_yX10_period, wi_RX10, by decide⟩
abbrev YX1_cycleDivisor : zY := (yX1_cycleDivisor, RX1, cX1_cycleDivisor, 6, some (.int), fun _ => True)
theorem zyX1_cycleDivisor : zYok YX1_cycleDivisor 0 := ⟨⟨by decide +kernel, by decide +kernel, by decide +kernel⟩, wc_yX1_cycleDivisor, wi_RX1, by decide⟩
abbrev YX10_commonDivisor : zY := (yX10_commonDivisor, RX10, cX10_commonDivisor, 11, some (.long), fun _ => True)
theorem zyX10_commonDivisor : zYok YX10_commonDivisor 2 := ⟨⟨by decide +kernel, by decide +kernel, by decide +kernel⟩, wc_yX10_commonDivisor, wi_RX10, by decide⟩
abbrev YX10_words : zY := (yX10_words, RX10, cX10_words, 3, some (.long), fun _ => True)
theorem zyX10_words : zYok YX10_words 2 := ⟨⟨by decide +kernel, by decide +kernel, by decide +kernel⟩, wc_yX10_words, wi_RX10, by decide⟩
abbrev YX10_countWords : zY := (yX10_countWords, RX10, cX10_countWords, 3, none, fun _ => True)
theorem zyX10_countWords : zYok YX10_countWords 2 := ⟨⟨by decide +kernel, by decide +kernel, by decide +kernel⟩, wc_yX10_countWords, wi_RX10, by decide⟩
abbrev YX10_loadSubsets : zY := (yX10_loadSubsets, RX10, cX10_loadSubsets, 2, none, fun _ => True)
theorem zyX10_loadSubsets : zYok YX10_loadSubsets 1 := ⟨⟨by decide +kernel, by decide +kernel, by decide +kernel⟩, wc_yX10_loadSubsets, wi_RX10, by decide⟩
abbrev YX6_build : zY := (yX6_build, RX6, cX6_build, 5, none, fun _ => True)
theorem zyX6_build : zYok YX6_build 1 := ⟨⟨by decide +kernel, by decide +kernel, by decide +kernel⟩, wc_yX6_build, wi_RX6, by decide⟩
abbrev YX6_note : zY := (yX6_note, RX6, cX6_note, 3, some (.int), fun _ => True)
theorem zyX6_note : zYok YX6_note 2 := ⟨⟨by decide +kernel, by decide +kernel, by decide +kernel⟩, wc_yX6_note, wi_RX6, by decide⟩
abbrev YX1_follow : zY := (yX1_follow, RX1, cX1_follow, 5, some (.int), fun _ => True)
theorem zyX1_follow : zYok YX1_follow 2 := ⟨⟨by decide +kernel, by decide +kernel, by decide +kernel⟩, wc_yX1_follow, wi_RX1, by decide⟩
abbrev YX9_fill : zY := (yX9_fill, RX9, cX9_fill, 8, none, fun _ => True)
theorem zyX9_fill : zYok YX9_fill 2 := ⟨⟨by decide +kernel, by decide +kernel, by decide +kernel⟩, wc_yX9_fill, wi_RX9, by decide⟩
abbrev YX6_start : zY := (yX6_start, RX6, cX6_start, 1, some (.int), fun _ => True)
theorem zyX6_start : zYok YX6_start 0 := ⟨⟨by decide +kernel, by decide +kernel, by decide +kernel⟩, wc_yX6_start, wi_RX6, by decide⟩
abbrev YX6_size : zY := (yX6_size, RX6, cX6_size, 1, some (.int), fun _ => True)
theorem zyX6_size : zYok YX6_size 0 := ⟨⟨by decide +kernel, by decide +kernel, by decide +kernel⟩, wc_yX6_size, wi_RX6, by decide⟩
abbrev YX6_after : zY := (yX6_after, RX6, cX6_after, 4, some (.int), fun _ => True)
theorem zyX6_after : zYok YX6_after 2 := ⟨⟨by decide +kernel, by decide +kernel, by decide +kernel⟩, wc_yX6_after, wi_RX6, by decide⟩
abbrev YX9_count : zY := (yX9_count, RX9, cX9_count, 4, some (.long), fun _ => True)
theorem zyX9_count : zYok YX9_count 2 := ⟨⟨by decide +kernel, by decide +kernel, by decide +kernel⟩, wc_yX9_count, wi_RX9, by decide⟩
abbrev YX9_total : zY := (yX9_total, RX9, cX9_total, 2, some (.long), fun _ => True)
theorem zyX9_total : zYok YX9_total 1 := ⟨⟨by decide +kernel, by decide +kernel, by decide +kernel⟩, wc_yX9_total, wi_RX9, by decide⟩
abbrev YX10_growth : zY := (yX10_growth, RX10, cX10_growth, 10, some (.long), fun _ => True)
theorem zyX10_growth : zYok YX10_growth 3 := ⟨⟨by decide +kernel, by decide +kernel, by decide +kernel⟩, wc_yX10_growth, wi_RX10, by decide⟩
abbrev YX10_allows : zY := (yX10_allows, RX10, cX10_allows, 4, some (.int), fun _ => True)
theorem zyX10_allows : zYok YX10_allows 1 := ⟨⟨by decide +kernel, by decide +kernel, by decide +kernel⟩, wc_yX10_allows, wi_RX10, by decide⟩
abbrev YX10_wordFault : zY := (yX10_wordFault, RX10, cX10_wordFault, 2, some (.int), fun _ => True)
theorem zyX10_wordFault : zYok YX10_wordFault 0 := ⟨⟨by decide +kernel, by decide +kernel, by decide +kernel⟩, wc_yX10_wordFault, wi_RX10, by decide⟩
abbrev YX10_endsOfInput : zY := (yX10_endsOfInput, RX10, cX10_endsOfInput, 4, some (.int), fun _ => True)
theorem zyX10_endsOfInput : zYok YX10_endsOfInput 1 := ⟨⟨by decide +kernel, by decide +kernel, by decide +kernel⟩, wc_yX10_endsOfInput, wi_RX10, by decide⟩
abbrev YX10_writeWord : zY := (yX10_writeWord, RX10, cX10_writeWord, 5, some (.int), fun _ => True)
theorem zyX10_writeWord : zYok YX10_writeWord 3 := ⟨⟨by decide +kernel, by decide +kernel, by decide +kernel⟩, wc_yX10_writeWord, wi_RX10, by decide⟩
abbrev YX9_spell : zY := (yX9_spell, RX9, cX9_spell, 14, none, fun _ => True)
theorem zyX9_spell : zYok YX9_spell 4 := ⟨⟨by decide +kernel, by decide +kernel, by decide +kernel⟩, wc_yX9_spell, wi_RX9, by decide⟩
abbrev YX7_addLetter : zY := (yX7_addLetter, RX7, cX7_addLetter, 2, none, fun _ => True)
theorem zyX7_addLetter : zYok YX7_addLetter 1 := ⟨⟨by decide +kernel, by decide +kernel, by decide +kernel⟩, wc_yX7_addLetter, wi_RX7, by decide⟩
abbrev YX10_forbidden : zY := (yX10_forbidden, RX10, cX10_forbidden, 3, some (.int), fun _ => True)
theorem zyX10_forbidden : zYok YX10_forbidden 2 := ⟨⟨by decide +kernel, by decide +kernel, by decide +kernel⟩, wc_yX10_forbidden, wi_RX10, by decide⟩
abbrev YX6_countForbidden : zY := (yX6_countForbidden, RX6, cX6_countForbidden, 2, some (.int), fun _ => True)
theorem zyX6_countForbidden : zYok YX6_countForbidden 1 := ⟨⟨by decide +kernel, by decide +kernel, by decide +kernel⟩, wc_yX6_countForbidden, wi_RX6, by decide⟩
abbrev YX6_countForbiddenFrom : zY := (yX6_countForbiddenFrom, RX6, cX6_countForbiddenFrom, 6, some (.int), fun _ => True)
theorem zyX6_countForbiddenFrom : zYok YX6_countForbiddenFrom 3 := ⟨⟨by decide +kernel, by decide +kernel, by decide +kernel⟩, wc_yX6_countForbiddenFrom, wi_RX6, by decide⟩
abbrev YX6_countForbiddenBy : zY := (yX6_countForbiddenBy, RX6, cX6_countForbiddenBy, 7, some (.int), fun _ => True)
theorem zyX6_countForbiddenBy : zYok YX6_countForbiddenBy 4 := ⟨⟨by decide +kernel, by decide +kernel, by decide +kernel⟩, wc_yX6_countForbiddenBy, wi_RX6, by decide⟩
abbrev YX6_tailAfter : zY := (yX6_tailAfter, RX6, cX6_tailAfter, 3, some (.int), fun _ => True)
theorem zyX6_tailAfter : zYok YX6_tailAfter 2 := ⟨⟨by decide +kernel, by decide +kernel, by decide +kernel⟩, wc_yX6_tailAfter, wi_RX6, by decide⟩
abbrev YX10_writeForbidden : zY := (yX10_writeForbidden, RX10, cX10_writeForbidden, 4, some (.int), fun _ => True)
theorem zyX10_writeForbidden : zYok YX10_writeForbidden 3 := ⟨⟨by decide +kernel, by decide +kernel, by decide +kernel⟩, wc_yX10_writeForbidden, wi_RX10, by decide⟩
abbrev YX6_spellForbidden : zY := (yX6_spellForbidden, RX6, cX6_spellForbidden, 10, none, fun _ => True)
theorem zyX6_spellForbidden : zYok YX6_spellForbidden 3 := ⟨⟨by decide +kernel, by decide +kernel, by decide +kernel⟩, wc_yX6_spellForbidden, wi_RX6, by decide⟩
abbrev YX10_periodic : zY := (yX10_periodic, RX10, cX10_periodic, 5, some (.int), fun _ => True)
theorem zyX10_periodic : zYok YX10_periodic 2 := ⟨⟨by decide +kernel, by decide +kernel, by decide +kernel⟩, wc_yX10_periodic, wi_RX10, by decide⟩
abbrev YX6_countOrbits : zY := (yX6_countOrbits, RX6, cX6_countOrbits, 2, some (.int), fun _ => True)
theorem zyX6_countOrbits : zYok YX6_countOrbits 1 := ⟨⟨by decide +kernel, by decide +kernel, by decide +kernel⟩, wc_yX6_countOrbits, wi_RX6, by decide⟩
abbrev YX6_countNecklaces : zY := (yX6_countNecklaces, RX6, cX6_countNecklaces, 9, some (.int), fun _ => True)
theorem zyX6_countNecklaces : zYok YX6_countNecklaces 4 := ⟨⟨by decide +kernel, by decide +kernel, by decide +kernel⟩, wc_yX6_countNecklaces, wi_RX6, by decide⟩
abbrev YX6_repeatsForever : zY := (yX6_repeatsForever, RX6, cX6_repeatsForever, 7, some (.boolean), fun _ => True)
theorem zyX6_repeatsForever : zYok YX6_repeatsForever 2 := ⟨⟨by decide +kernel, by decide +kernel, by decide +kernel⟩, wc_yX6_repeatsForever, wi_RX6, by decide⟩
abbrev YX10_orbits : zY := (yX10_orbits, RX10, cX10_orbits, 3, some (.int), fun _ => True)
theorem zyX10_orbits : zYok YX10_orbits 2 := ⟨⟨by decide +kernel, by decide +kernel, by decide +kernel⟩, wc_yX10_orbits, wi_RX10, by decide⟩
abbrev YX10_characteristic : zY := (yX10_characteristic, RX10, cX10_characteristic, 4, some (.long), fun _ => True)
theorem zyX10_characteristic : zYok YX10_characteristic 2 := ⟨⟨by decide +kernel, by decide +kernel, by decide +kernel⟩, wc_yX10_characteristic, wi_RX10, by decide⟩
abbrev YX5_compute : zY := (yX5_compute, RX5, cX5_compute, 4, none, fun _ => True)
theorem zyX5_compute : zYok YX5_compute 1 := ⟨⟨by decide +kernel, by decide +kernel, by decide +kernel⟩, wc_yX5_compute, wi_RX5, by decide⟩
abbrev YX5_countEdges : zY := (yX5_countEdges, RX5, cX5_countEdges, 6, none, fun _ => True)
theorem zyX5_countEdges : zYok YX5_countEdges 1 := ⟨⟨by decide +kernel, by decide +kernel, by decide +kernel⟩, wc_yX5_countEdges, wi_RX5, by decide⟩
abbrev YJ7_fill_d0a16 : zY := (yJ7_fill_d0a16, RJ7, cJ7_fill_d0a16, 5, none, fun _ => True)
theorem zyJ7_fill_d0a16 : zYok YJ7_fill_d0a16 2 := ⟨⟨by decide +kernel, by decide +kernel, by decide +kernel⟩, wc_yJ7_fill_d0a16, wi_RJ7, by decide⟩
abbrev YX5_multiply : zY := (yX5_multiply, RX5, cX5_multiply, 6, none, fun _ => True)
theorem zyX5_multiply : zYok YX5_multiply 0 := ⟨⟨by decide +kernel, by decide +kernel, by decide +kernel⟩, wc_yX5_multiply, wi_RX5, by decide⟩
abbrev YX5_trace : zY := (yX5_trace, RX5, cX5_trace, 4, some (.long), fun _ => True)
theorem zyX5_trace : zYok YX5_trace 0 := ⟨⟨by decide +kernel, by decide +kernel, by decide +kernel⟩, wc_yX5_trace, wi_RX5, by decide⟩
abbrev YX5_coefficient : zY := (yX5_coefficient, RX5, cX5_coefficient, 2, some (.long), fun _ => True)
theorem zyX5_coefficient : zYok YX5_coefficient 1 := ⟨⟨by decide +kernel, by decide +kernel, by decide +kernel⟩, wc_yX5_coefficient, wi_RX5, by decide⟩
abbrev YX10_cover : zY := (yX10_cover, RX10, cX10_cover, 4, some (.int), fun _ => True)
theorem zyX10_cover : zYok YX10_cover 2 := ⟨⟨by decide +kernel, by decide +kernel, by decide +kernel⟩, wc_yX10_cover, wi_RX10, by decide⟩
abbrev YX10_buildCover : zY := (yX10_buildCover, RX10, cX10_buildCover, 2, some (.int), fun _ => True)
theorem zyX10_buildCover : zYok YX10_buildCover 1 := ⟨⟨by decide +kernel, by decide +kernel, by decide +kernel⟩, wc_yX10_buildCover, wi_RX10, by decide⟩
abbrev YX0_build : zY := (yX0_build, RX0, cX0_build, 2, some (.boolean), fun _ => True)
theorem zyX0_build : zYok YX0_build 1 := ⟨⟨by decide +kernel, by decide +kernel, by decide +kernel⟩, wc_yX0_build, wi_RX0, by decide⟩
abbrev YX0_findLastComponent : zY := (yX0_findLastComponent, RX0, cX0_findLastComponent, 4, none, fun _ => True)
theorem zyX0_findLastComponent : zYok YX0_findLastComponent 1 := ⟨⟨by decide +kernel, by decide +kernel, by decide +kernel⟩, wc_yX0_findLastComponent, wi_RX0, by decide⟩
abbrev YX0_collectFrom : zY := (yX0_collectFrom, RX0, cX0_collectFrom, 5, none, fun _ => True)
theorem zyX0_collectFrom : zYok YX0_collectFrom 2 := ⟨⟨by decide +kernel, by decide +kernel, by decide +kernel⟩, wc_yX0_collectFrom, wi_RX0, by decide⟩
abbrev YX0_clearAll : zY := (yX0_clearAll, RX0, cX0_clearAll, 2, none, fun _ => True)
theorem zyX0_clearAll : zYok YX0_clearAll 1 := ⟨⟨by decide +kernel, by decide +kernel, by decide +kernel⟩, wc_yX0_clearAll, wi_RX0, by decide⟩
abbrev YX0_collect : zY := (yX0_collect, RX0, cX0_collect, 2, none, fun _ => True)
theorem zyX0_collect : zYok YX0_collect 1 := ⟨⟨by decide +kernel, by decide +kernel, by decide +kernel⟩, wc_yX0_collect, wi_RX0, by decide⟩
abbrev YX0_memberWithoutWayTo : zY := (yX0_memberWithoutWayTo, RX0, cX0_memberWithoutWayTo, 5, some (.int), fun _ => True)
theorem zyX0_memberWithoutWayTo : zYok YX0_memberWithoutWayTo 2 := ⟨⟨by decide +kernel, by decide +kernel, by decide +kernel⟩, wc_yX0_memberWithoutWayTo, wi_RX0, by decide⟩
abbrev YX0_markMembersBeforeMarked : zY := (yX0_markMembersBeforeMarked, RX0, cX0_markMembersBeforeMarked, 6, some (.boolean), fun _ => True)
theorem zyX0_markMembersBeforeMarked : zYok YX0_markMembersBeforeMarked 1 := ⟨⟨by decide +kernel, by decide +kernel, by decide +kernel⟩, wc_yX0_markMembersBeforeMarked, wi_RX0, by decide⟩
abbrev YX0_mergeMembers : zY := (yX0_mergeMembers, RX0, cX0_mergeMembers, 4, some (.boolean), fun _ => True)
theorem zyX0_mergeMembers : zYok YX0_mergeMembers 1 := ⟨⟨by decide +kernel, by decide +kernel, by decide +kernel⟩, wc_yX0_mergeMembers, wi_RX0, by decide⟩
abbrev YX0_splitClasses : zY := (yX0_splitClasses, RX0, cX0_splitClasses, 5, some (.int), fun _ => True)
theorem zyX0_splitClasses : zYok YX0_splitClasses 1 := ⟨⟨by decide +kernel, by decide +kernel, by decide +kernel⟩, wc_yX0_splitClasses, wi_RX0, by decide⟩
abbrev YX0_leadAlike : zY := (yX0_leadAlike, RX0, cX0_leadAlike, 6, some (.boolean), fun _ => True)
theorem zyX0_leadAlike : zYok YX0_leadAlike 3 := ⟨⟨by decide +kernel, by decide +kernel, by decide +kernel⟩, wc_yX0_leadAlike, wi_RX0, by decide⟩
abbrev YX0_classOf : zY := (yX0_classOf, RX0, cX0_classOf, 2, some (.int), fun _ => True)
theorem zyX0_classOf : zYok YX0_classOf 1 := ⟨⟨by decide +kernel, by decide +kernel, by decide +kernel⟩, wc_yX0_classOf, wi_RX0, by decide⟩
abbrev YX0_linkClasses : zY := (yX0_linkClasses, RX0, cX0_linkClasses, 4, none, fun _ => True)
theorem zyX0_linkClasses : zYok YX0_linkClasses 1 := ⟨⟨by decide +kernel, by decide +kernel, by decide +kernel⟩, wc_yX0_linkClasses, wi_RX0, by decide⟩
abbrev YX0_findReset : zY := (yX0_findReset, RX0, cX0_findReset, 2, none, fun _ => True)
theorem zyX0_findReset : zYok YX0_findReset 0 := ⟨⟨by decide +kernel, by decide +kernel, by decide +kernel⟩, wc_yX0_findReset, wi_RX0, by decide⟩
abbrev YX6_set : zY := (yX6_set, RX6, cX6_set, 2, some (.int), fun _ => True)
theorem zyX6_set : zYok YX6_set 1 := ⟨⟨by decide +kernel, by decide +kernel, by decide +kernel⟩, wc_yX6_set, wi_RX6, by decide⟩
abbrev YX0_numberVertices : zY := (yX0_numberVertices, RX0, cX0_numberVertices, 5, none, fun _ => True)
theorem zyX0_numberVertices : zYok YX0_numberVertices 0 := ⟨⟨by decide +kernel, by decide +kernel, by decide +kernel⟩, wc_yX0_numberVertices, wi_RX0, by decide⟩
abbrev YX0_numberVertex : zY := (yX0_numberVertex, RX0, cX0_numberVertex, 3, some (.int), fun _ => True)
theorem zyX0_numberVertex : zYok YX0_numberVertex 2 := ⟨⟨by decide +kernel, by decide +kernel, by decide +kernel⟩, wc_yX0_numberVertex, wi_RX0, by decide⟩
abbrev YX0_targetInMerged : zY := (yX0_targetInMerged, RX0, cX0_targetInMerged, 4, some (.int), fun _ => True)
theorem zyX0_targetInMerged : zYok YX0_targetInMerged 2 := ⟨⟨by decide +kernel, by decide +kernel, by decide +kernel⟩, wc_yX0_targetInMerged, wi_RX0, by decide⟩
abbrev YX0_size : zY := (yX0_size, RX0, cX0_size, 1, some (.int), fun _ => True)
theorem zyX0_size : zYok YX0_size 0 := ⟨⟨by decide +kernel, by decide +kernel, by decide +kernel⟩, wc_yX0_size, wi_RX0, by decide⟩
abbrev YX0_shape : zY := (yX0_shape, RX0, cX0_shape, 1, some ((.object "SoficShift$Graph")), fun _ => True)
theorem zyX0_shape : zYok YX0_shape 0 := ⟨⟨by decide +kernel, by decide +kernel, by decide +kernel⟩, wc_yX0_shape, wi_RX0, by decide⟩
abbrev YX10_writeReset : zY := (yX10_writeReset, RX10, cX10_writeReset, 3, some (.int), fun _ => True)
theorem zyX10_writeReset : zYok YX10_writeReset 1 := ⟨⟨by decide +kernel, by decide +kernel, by decide +kernel⟩, wc_yX10_writeReset, wi_RX10, by decide⟩
abbrev YX0_spellReset : zY := (yX0_spellReset, RX0, cX0_spellReset, 2, none, fun _ => True)
theorem zyX0_spellReset : zYok YX0_spellReset 1 := ⟨⟨by decide +kernel, by decide +kernel, by decide +kernel⟩, wc_yX0_spellReset, wi_RX0, by decide⟩
abbrev YX6_spellPath : zY := (yX6_spellPath, RX6, cX6_spellPath, 5, none, fun _ => True)
theorem zyX6_spellPath : zYok YX6_spellPath 2 := ⟨⟨by decide +kernel, by decide +kernel, by decide +kernel⟩, wc_yX6_spellPath, wi_RX6, by decide⟩
abbrev YX7_turnAround : zY := (yX7_turnAround, RX7, cX7_turnAround, 4, none, fun _ => True)
theorem zyX7_turnAround : zYok YX7_turnAround 0 := ⟨⟨by decide +kernel, by decide +kernel, by decide +kernel⟩, wc_yX7_turnAround, wi_RX7, by decide⟩
abbrev YX10_memory : zY := (yX10_memory, RX10, cX10_memory, 3, some (.int), fun _ => True)
theorem zyX10_memory : zYok YX10_memory 1 := ⟨⟨by decide +kernel, by decide +kernel, by decide +kernel⟩, wc_yX10_memory, wi_RX10, by decide⟩
abbrev YX0_stepsToSynchronize : zY := (yX0_stepsToSynchronize, RX0, cX0_stepsToSynchronize, 5, some (.int), fun _ => True)
theorem zyX0_stepsToSynchronize : zYok YX0_stepsToSynchronize 0 := ⟨⟨by decide +kernel, by decide +kernel, by decide +kernel⟩, wc_yX0_stepsToSynchronize, wi_RX0, by decide⟩
abbrev YX0_pairsAfter : zY := (yX0_pairsAfter, RX0, cX0_pairsAfter, 7, some (.long), fun _ => True)
theorem zyX0_pairsAfter : zYok YX0_pairsAfter 1 := ⟨⟨by decide +kernel, by decide +kernel, by decide +kernel⟩, wc_yX0_pairsAfter, wi_RX0, by decide⟩
abbrev YX0_pairsAfterPair : zY := (yX0_pairsAfterPair, RX0, cX0_pairsAfterPair, 8, some (.long), fun _ => True)
theorem zyX0_pairsAfterPair : zYok YX0_pairsAfterPair 2 := ⟨⟨by decide +kernel, by decide +kernel, by decide +kernel⟩, wc_yX0_pairsAfterPair, wi_RX0, by decide⟩
abbrev YX10_isMixing : zY := (yX10_isMixing, RX10, cX10_isMixing, 3, some (.int), fun _ => True)
theorem zyX10_isMixing : zYok YX10_isMixing 1 := ⟨⟨by decide +kernel, by decide +kernel, by decide +kernel⟩, wc_yX10_isMixing, wi_RX10, by decide⟩
abbrev YX10_writeDifference : zY := (yX10_writeDifference, RX10, cX10_writeDifference, 3, some (.int), fun _ => True)
theorem zyX10_writeDifference : zYok YX10_writeDifference 2 := ⟨⟨by decide +kernel, by decide +kernel, by decide +kernel⟩, wc_yX10_writeDifference, wi_RX10, by decide⟩
abbrev YX4_findDifference : zY := (yX4_findDifference, RX4, cX4_findDifference, 11, some (.boolean), fun _ => True)
theorem zyX4_findDifference : zYok YX4_findDifference 2 := ⟨⟨by decide +kernel, by decide +kernel, by decide +kernel⟩, wc_yX4_findDifference, wi_RX4, by decide⟩
abbrev YX4_forget : zY := (yX4_forget, RX4, cX4_forget, 2, none, fun _ => True)
theorem zyX4_forget : zYok YX4_forget 0 := ⟨⟨by decide +kernel, by decide +kernel, by decide +kernel⟩, wc_yX4_forget, wi_RX4, by decide⟩
abbrev YX4_pairAt : zY := (yX4_pairAt, RX4, cX4_pairAt, 3, some (.int), fun _ => True)
theorem zyX4_pairAt : zYok YX4_pairAt 1 := ⟨⟨by decide +kernel, by decide +kernel, by decide +kernel⟩, wc_yX4_pairAt, wi_RX4, by decide⟩
abbrev YX4_isDifference : zY := (yX4_isDifference, RX4, cX4_isDifference, 1, some (.boolean), fun _ => True)
theorem zyX4_isDifference : zYok YX4_isDifference 1 := ⟨⟨by decide +kernel, by decide +kernel, by decide +kernel⟩, wc_yX4_isDifference, wi_RX4, by decide⟩
abbrev YX4_note : zY := (yX4_note, RX4, cX4_note, 3, none, fun _ => True)
theorem zyX4_note : zYok YX4_note 2 := ⟨⟨by decide +kernel, by decide +kernel, by decide +kernel⟩, wc_yX4_note, wi_RX4, by decide⟩
abbrev YX4_makeRoom : zY := (yX4_makeRoom, RX4, cX4_makeRoom, 1, none, fun _ => True)
theorem zyX4_makeRoom : zYok YX4_makeRoom 0 := ⟨⟨by decide +kernel, by decide +kernel, by decide +kernel⟩, wc_yX4_makeRoom, wi_RX4, by decide⟩
abbrev YJ7_copyOf_c38d5 : zY := (yJ7_copyOf_c38d5, RJ7, cJ7_copyOf_c38d5, 3, some ((.array .long)), fun _ => True)
theorem zyJ7_copyOf_c38d5 : zYok YJ7_copyOf_c38d5 2 := ⟨⟨by decide +kernel, by decide +kernel, by decide +kernel⟩, wc_yJ7_copyOf_c38d5, wi_RJ7, by decide⟩
abbrev YX4_spellDifference : zY := (yX4_spellDifference, RX4, cX4_spellDifference, 4, none, fun _ => True)
theorem zyX4_spellDifference : zYok YX4_spellDifference 1 := ⟨⟨by decide +kernel, by decide +kernel, by decide +kernel⟩, wc_yX4_spellDifference, wi_RX4, by decide⟩
abbrev YX4_arrivalAt : zY := (yX4_arrivalAt, RX4, cX4_arrivalAt, 3, some (.int), fun _ => True)
theorem zyX4_arrivalAt : zYok YX4_arrivalAt 1 := ⟨⟨by decide +kernel, by decide +kernel, by decide +kernel⟩, wc_yX4_arrivalAt, wi_RX4, by decide⟩
abbrev YX10_union : zY := (yX10_union, RX10, cX10_union, 6, some (.int), fun _ => True)
theorem zyX10_union : zYok YX10_union 3 := ⟨⟨by decide +kernel, by decide +kernel, by decide +kernel⟩, wc_yX10_union, wi_RX10, by decide⟩
abbrev YX8_clear : zY := (yX8_clear, RX8, cX8_clear, 1, none, fun _ => True)
theorem zyX8_clear : zYok YX8_clear 0 := ⟨⟨by decide +kernel, by decide +kernel, by decide +kernel⟩, wc_yX8_clear, wi_RX8, by decide⟩
abbrev YX8_link : zY := (yX8_link, RX8, cX8_link, 5, none, fun _ => True)
theorem zyX8_link : zYok YX8_link 3 := ⟨⟨by decide +kernel, by decide +kernel, by decide +kernel⟩, wc_yX8_link, wi_RX8, by decide⟩
abbrev YX10_storeWide : zY := (yX10_storeWide, RX10, cX10_storeWide, 3, some (.int), fun _ => True)
theorem zyX10_storeWide : zYok YX10_storeWide 1 := ⟨⟨by decide +kernel, by decide +kernel, by decide +kernel⟩, wc_yX10_storeWide, wi_RX10, by decide⟩
abbrev YX8_compressCore : zY := (yX8_compressCore, RX8, cX8_compressCore, 6, some (.int), fun _ => True)
theorem zyX8_compressCore : zYok YX8_compressCore 1 := ⟨⟨by decide +kernel, by decide +kernel, by decide +kernel⟩, wc_yX8_compressCore, wi_RX8, by decide⟩
abbrev YX8_trim : zY := (yX8_trim, RX8, cX8_trim, 12, some (.long), fun _ => True)
theorem zyX8_trim : zYok YX8_trim 0 := ⟨⟨by decide +kernel, by decide +kernel, by decide +kernel⟩, wc_yX8_trim, wi_RX8, by decide⟩
abbrev YX8_successors : zY := (yX8_successors, RX8, cX8_successors, 5, some (.long), fun _ => True)
theorem zyX8_successors : zYok YX8_successors 1 := ⟨⟨by decide +kernel, by decide +kernel, by decide +kernel⟩, wc_yX8_successors, wi_RX8, by decide⟩
abbrev YX8_row : zY := (yX8_row, RX8, cX8_row, 3, some (.long), fun _ => True)
theorem zyX8_row : zYok YX8_row 2 := ⟨⟨by decide +kernel, by decide +kernel, by decide +kernel⟩, wc_yX8_row, wi_RX8, by decide⟩
abbrev YJ13_bitCount_95d88 : zY := (yJ13_bitCount_95d88, RJ13, cJ13_bitCount_95d88, 2, some (.int), fun _ => True)
theorem zyJ13_bitCount_95d88 : zYok YJ13_bitCount_95d88 1 := ⟨⟨by decide +kernel, by decide +kernel, by decide +kernel⟩, wc_yJ13_bitCount_95d88, wi_RJ13, by decide⟩
abbrev YX8_numberVertices : zY := (yX8_numberVertices, RX8, cX8_numberVertices, 5, none, fun _ => True)
theorem zyX8_numberVertices : zYok YX8_numberVertices 1 := ⟨⟨by decide +kernel, by decide +kernel, by decide +kernel⟩, wc_yX8_numberVertices, wi_RX8, by decide⟩
abbrev YX8_copyEdges : zY := (yX8_copyEdges, RX8, cX8_copyEdges, 10, none, fun _ => True)
theorem zyX8_copyEdges : zYok YX8_copyEdges 4 := ⟨⟨by decide +kernel, by decide +kernel, by decide +kernel⟩, wc_yX8_copyEdges, wi_RX8, by decide⟩
abbrev YX10_intersect : zY := (yX10_intersect, RX10, cX10_intersect, 8, some (.int), fun _ => True)
theorem zyX10_intersect : zYok YX10_intersect 3 := ⟨⟨by decide +kernel, by decide +kernel, by decide +kernel⟩, wc_yX10_intersect, wi_RX10, by decide⟩
abbrev YX10_product : zY := (yX10_product, RX10, cX10_product, 5, some (.long), fun _ => True)
theorem zyX10_product : zYok YX10_product 2 := ⟨⟨by decide +kernel, by decide +kernel, by decide +kernel⟩, wc_yX10_product, wi_RX10, by decide⟩
abbrev YX10_reverse : zY := (yX10_reverse, RX10, cX10_reverse, 6, some (.int), fun _ => True)
theorem zyX10_reverse : zYok YX10_reverse 2 := ⟨⟨by decide +kernel, by decide +kernel, by decide +kernel⟩, wc_yX10_reverse, wi_RX10, by decide⟩
abbrev YX10_relabel : zY := (yX10_relabel, RX10, cX10_relabel, 7, some (.int), fun _ => True)
theorem zyX10_relabel : zYok YX10_relabel 4 := ⟨⟨by decide +kernel, by decide +kernel, by decide +kernel⟩, wc_yX10_relabel, wi_RX10, by decide⟩
abbrev YX10_forbid : zY := (yX10_forbid, RX10, cX10_forbid, 6, some (.int), fun _ => True)
theorem zyX10_forbid : zYok YX10_forbid 2 := ⟨⟨by decide +kernel, by decide +kernel, by decide +kernel⟩, wc_yX10_forbid, wi_RX10, by decide⟩
abbrev YX10_trackInput : zY := (yX10_trackInput, RX10, cX10_trackInput, 7, none, fun _ => True)
theorem zyX10_trackInput : zYok YX10_trackInput 1 := ⟨⟨by decide +kernel, by decide +kernel, by decide +kernel⟩, wc_yX10_trackInput, wi_RX10, by decide⟩
abbrev YX10_overlap : zY := (yX10_overlap, RX10, cX10_overlap, 4, some (.int), fun _ => True)
theorem zyX10_overlap : zYok YX10_overlap 2 := ⟨⟨by decide +kernel, by decide +kernel, by decide +kernel⟩, wc_yX10_overlap, wi_RX10, by decide⟩
abbrev YX10_repeatsPrefix : zY := (yX10_repeatsPrefix, RX10, cX10_repeatsPrefix, 4, some (.boolean), fun _ => True)
theorem zyX10_repeatsPrefix : zYok YX10_repeatsPrefix 2 := ⟨⟨by decide +kernel, by decide +kernel, by decide +kernel⟩, wc_yX10_repeatsPrefix, wi_RX10, by decide⟩
abbrev YX10_writeGraph : zY := (yX10_writeGraph, RX10, cX10_writeGraph, 5, some (.int), fun _ => True)
theorem zyX10_writeGraph : zYok YX10_writeGraph 1 := ⟨⟨by decide +kernel, by decide +kernel, by decide +kernel⟩, wc_yX10_writeGraph, wi_RX10, by decide⟩
abbrev YX10_writeEdge : zY := (yX10_writeEdge, RX10, cX10_writeEdge, 4, none, fun _ => True)
theorem zyX10_writeEdge : zYok YX10_writeEdge 3 := ⟨⟨by decide +kernel, by decide +kernel, by decide +kernel⟩, wc_yX10_writeEdge, wi_RX10, by decide⟩
abbrev YX10_output : zY := (yX10_output, RX10, cX10_output, 2, some (.int), fun _ => True)
theorem zyX10_output : zYok YX10_output 1 := ⟨⟨by decide +kernel, by decide +kernel, by decide +kernel⟩, wc_yX10_output, wi_RX10, by decide⟩
abbrev YX10_undo : zY := (yX10_undo, RX10, cX10_undo, 2, some (.int), fun _ => True)
theorem zyX10_undo : zYok YX10_undo 0 := ⟨⟨by decide +kernel, by decide +kernel, by decide +kernel⟩, wc_yX10_undo, wi_RX10, by decide⟩
abbrev YX2_pop : zY := (yX2_pop, RX2, cX2_pop, 3, some (.int), fun _ => True)
theorem zyX2_pop : zYok YX2_pop 1 := ⟨⟨by decide +kernel, by decide +kernel, by decide +kernel⟩, wc_yX2_pop, wi_RX2, by decide⟩
abbrev YX10_save : zY := (yX10_save, RX10, cX10_save, 2, some (.int), fun _ => True)
theorem zyX10_save : zYok YX10_save 0 := ⟨⟨by decide +kernel, by decide +kernel, by decide +kernel⟩, wc_yX10_save, wi_RX10, by decide⟩
abbrev YX10_countAllEdges : zY := (yX10_countAllEdges, RX10, cX10_countAllEdges, 3, some (.int), fun _ => True)
theorem zyX10_countAllEdges : zYok YX10_countAllEdges 0 := ⟨⟨by decide +kernel, by decide +kernel, by decide +kernel⟩, wc_yX10_countAllEdges, wi_RX10, by decide⟩
abbrev YX10_restore : zY := (yX10_restore, RX10, cX10_restore, 2, some (.int), fun _ => True)
theorem zyX10_restore : zYok YX10_restore 0 := ⟨⟨by decide +kernel, by decide +kernel, by decide +kernel⟩, wc_yX10_restore, wi_RX10, by decide⟩
abbrev YX2_clear : zY := (yX2_clear, RX2, cX2_clear, 1, none, fun _ => True)
theorem zyX2_clear : zYok YX2_clear 0 := ⟨⟨by decide +kernel, by decide +kernel, by decide +kernel⟩, wc_yX2_clear, wi_RX2, by decide⟩
abbrev YX10_createArray : zY := (yX10_createArray, RX10, cX10_createArray, 4, some (.int), fun _ => True)
theorem zyX10_createArray : zYok YX10_createArray 3 := ⟨⟨by decide +kernel, by decide +kernel, by decide +kernel⟩, wc_yX10_createArray, wi_RX10, by decide⟩
abbrev YX10_isArray : zY := (yX10_isArray, RX10, cX10_isArray, 1, some (.boolean), fun _ => True)
theorem zyX10_isArray : zYok YX10_isArray 1 := ⟨⟨by decide +kernel, by decide +kernel, by decide +kernel⟩, wc_yX10_isArray, wi_RX10, by decide⟩
abbrev YX3_create : zY := (yX3_create, RX3, cX3_create, 4, none, fun _ => True)
theorem zyX3_create : zYok YX3_create 2 := ⟨⟨by decide +kernel, by decide +kernel, by decide +kernel⟩, wc_yX3_create, wi_RX3, by decide⟩
abbrev YX10_setElement : zY := (yX10_setElement, RX10, cX10_setElement, 5, some (.int), fun _ => True)
theorem zyX10_setElement : zYok YX10_setElement 3 := ⟨⟨by decide +kernel, by decide +kernel, by decide +kernel⟩, wc_yX10_setElement, wi_RX10, by decide⟩
abbrev YX3_exists : zY := (yX3_exists, RX3, cX3_exists, 1, some (.boolean), fun _ => True)
theorem zyX3_exists : zYok YX3_exists 0 := ⟨⟨by decide +kernel, by decide +kernel, by decide +kernel⟩, wc_yX3_exists, wi_RX3, by decide⟩
abbrev YX3_hasIndex : zY := (yX3_hasIndex, RX3, cX3_hasIndex, 2, some (.boolean), fun _ => True)
theorem zyX3_hasIndex : zYok YX3_hasIndex 1 := ⟨⟨by decide +kernel, by decide +kernel, by decide +kernel⟩, wc_yX3_hasIndex, wi_RX3, by decide⟩
abbrev YX3_set : zY := (yX3_set, RX3, cX3_set, 3, none, fun _ => True)
theorem zyX3_set : zYok YX3_set 2 := ⟨⟨by decide +kernel, by decide +kernel, by decide +kernel⟩, wc_yX3_set, wi_RX3, by decide⟩
abbrev YX3_converted : zY := (yX3_converted, RX3, cX3_converted, 3, some (.float), fun _ => True)
theorem zyX3_converted : zYok YX3_converted 1 := ⟨⟨by decide +kernel, by decide +kernel, by decide +kernel⟩, wc_yX3_converted, wi_RX3, by decide⟩
abbrev YX10_setNaN : zY := (yX10_setNaN, RX10, cX10_setNaN, 4, some (.int), fun _ => True)
theorem zyX10_setNaN : zYok YX10_setNaN 2 := ⟨⟨by decide +kernel, by decide +kernel, by decide +kernel⟩, wc_yX10_setNaN, wi_RX10, by decide⟩
abbrev YX3_isFloat : zY := (yX3_isFloat, RX3, cX3_isFloat, 1, some (.boolean), fun _ => True)
theorem zyX3_isFloat : zYok YX3_isFloat 0 := ⟨⟨by decide +kernel, by decide +kernel, by decide +kernel⟩, wc_yX3_isFloat, wi_RX3, by decide⟩
abbrev YX3_makeNaN : zY := (yX3_makeNaN, RX3, cX3_makeNaN, 2, none, fun _ => True)
theorem zyX3_makeNaN : zYok YX3_makeNaN 1 := ⟨⟨by decide +kernel, by decide +kernel, by decide +kernel⟩, wc_yX3_makeNaN, wi_RX3, by decide⟩
abbrev YX10_compareElements : zY := (yX10_compareElements, RX10, cX10_compareElements, 5, some (.int), fun _ => True)
theorem zyX10_compareElements : zYok YX10_compareElements 3 := ⟨⟨by decide +kernel, by decide +kernel, by decide +kernel⟩, wc_yX10_compareElements, wi_RX10, by decide⟩
abbrev YX3_order : zY := (yX3_order, RX3, cX3_order, 3, some (.int), fun _ => True)
theorem zyX3_order : zYok YX3_order 2 := ⟨⟨by decide +kernel, by decide +kernel, by decide +kernel⟩, wc_yX3_order, wi_RX3, by decide⟩
abbrev YX10_checkCounts : zY := (yX10_checkCounts, RX10, cX10_checkCounts, 5, some (.int), fun _ => True)
theorem zyX10_checkCounts : zYok YX10_checkCounts 2 := ⟨⟨by decide +kernel, by decide +kernel, by decide +kernel⟩, wc_yX10_checkCounts, wi_RX10, by decide⟩
abbrev YX3_length : zY := (yX3_length, RX3, cX3_length, 1, some (.int), fun _ => True)
theorem zyX3_length : zYok YX3_length 0 := ⟨⟨by decide +kernel, by decide +kernel, by decide +kernel⟩, wc_yX3_length, wi_RX3, by decide⟩
abbrev YX3_holds : zY := (yX3_holds, RX3, cX3_holds, 4, some (.boolean), fun _ => True)
theorem zyX3_holds : zYok YX3_holds 2 := ⟨⟨by decide +kernel, by decide +kernel, by decide +kernel⟩, wc_yX3_holds, wi_RX3, by decide⟩
abbrev YX11_init : zY := (yX11_init, RX11, cX11_init, 1, none, fun _ => True)
theorem zyX11_init : zYok YX11_init 0 := ⟨⟨by decide +kernel, by decide +kernel, by decide +kernel⟩, wc_yX11_init, wi_RX11, by decide⟩
abbrev YX11_addEdge : zY := (yX11_addEdge, RX11, cX11_addEdge, 5, some (.int), fun _ => True)
theorem zyX11_addEdge : zYok YX11_addEdge 4 := ⟨⟨by decide +kernel, by decide +kernel, by decide +kernel⟩, wc_yX11_addEdge, wi_RX11, by decide⟩
abbrev YX11_isSlot : zY := (yX11_isSlot, RX11, cX11_isSlot, 1, some (.boolean), fun _ => True)
theorem zyX11_isSlot : zYok YX11_isSlot 1 := ⟨⟨by decide +kernel, by decide +kernel, by decide +kernel⟩, wc_yX11_isSlot, wi_RX11, by decide⟩
abbrev YX11_isIn : zY := (yX11_isIn, RX11, cX11_isIn, 3, some (.boolean), fun _ => True)
theorem zyX11_isIn : zYok YX11_isIn 3 := ⟨⟨by decide +kernel, by decide +kernel, by decide +kernel⟩, wc_yX11_isIn, wi_RX11, by decide⟩
abbrev YX11_isVertex : zY := (yX11_isVertex, RX11, cX11_isVertex, 1, some (.boolean), fun _ => True)
theorem zyX11_isVertex : zYok YX11_isVertex 1 := ⟨⟨by decide +kernel, by decide +kernel, by decide +kernel⟩, wc_yX11_isVertex, wi_RX11, by decide⟩
abbrev YX11_isLetter : zY := (yX11_isLetter, RX11, cX11_isLetter, 1, some (.boolean), fun _ => True)
theorem zyX11_isLetter : zYok YX11_isLetter 1 := ⟨⟨by decide +kernel, by decide +kernel, by decide +kernel⟩, wc_yX11_isLetter, wi_RX11, by decide⟩
abbrev YX11_make : zY := (yX11_make, RX11, cX11_make, 3, none, fun _ => True)
theorem zyX11_make : zYok YX11_make 1 := ⟨⟨by decide +kernel, by decide +kernel, by decide +kernel⟩, wc_yX11_make, wi_RX11, by decide⟩
abbrev YX11_replace : zY := (yX11_replace, RX11, cX11_replace, 4, none, fun _ => True)
theorem zyX11_replace : zYok YX11_replace 1 := ⟨⟨by decide +kernel, by decide +kernel, by decide +kernel⟩, wc_yX11_replace, wi_RX11, by decide⟩
abbrev YX11_edgesOf : zY := (yX11_edgesOf, RX11, cX11_edgesOf, 4, some (.int), fun _ => True)
theorem zyX11_edgesOf : zYok YX11_edgesOf 1 := ⟨⟨by decide +kernel, by decide +kernel, by decide +kernel⟩, wc_yX11_edgesOf, wi_RX11, by decide⟩
abbrev YX11_removeEdge : zY := (yX11_removeEdge, RX11, cX11_removeEdge, 5, some (.int), fun _ => True)
theorem zyX11_removeEdge : zYok YX11_removeEdge 4 := ⟨⟨by decide +kernel, by decide +kernel, by decide +kernel⟩, wc_yX11_removeEdge, wi_RX11, by decide⟩
abbrev YX11_to : zY := (yX11_to, RX11, cX11_to, 4, some (.int), fun _ => True)
theorem zyX11_to : zYok YX11_to 3 := ⟨⟨by decide +kernel, by decide +kernel, by decide +kernel⟩, wc_yX11_to, wi_RX11, by decide⟩
abbrev YX11_targets : zY := (yX11_targets, RX11, cX11_targets, 4, some (.int), fun _ => True)
theorem zyX11_targets : zYok YX11_targets 3 := ⟨⟨by decide +kernel, by decide +kernel, by decide +kernel⟩, wc_yX11_targets, wi_RX11, by decide⟩
abbrev YX11_edges : zY := (yX11_edges, RX11, cX11_edges, 2, some (.int), fun _ => True)
theorem zyX11_edges : zYok YX11_edges 1 := ⟨⟨by decide +kernel, by decide +kernel, by decide +kernel⟩, wc_yX11_edges, wi_RX11, by decide⟩
abbrev YX11_feed : zY := (yX11_feed, RX11, cX11_feed, 2, some (.int), fun _ => True)
theorem zyX11_feed : zYok YX11_feed 1 := ⟨⟨by decide +kernel, by decide +kernel, by decide +kernel⟩, wc_yX11_feed, wi_RX11, by decide⟩
abbrev YX11_parse : zY := (yX11_parse, RX11, cX11_parse, 4, some (.int), fun _ => True)
theorem zyX11_parse : zYok YX11_parse 1 := ⟨⟨by decide +kernel, by decide +kernel, by decide +kernel⟩, wc_yX11_parse, wi_RX11, by decide⟩
abbrev YX11_clearMade : zY := (yX11_clearMade, RX11, cX11_clearMade, 2, none, fun _ => True)
theorem zyX11_clearMade : zYok YX11_clearMade 0 := ⟨⟨by decide +kernel, by decide +kernel, by decide +kernel⟩, wc_yX11_clearMade, wi_RX11, by decide⟩
abbrev YX11_stands : zY := (yX11_stands, RX11, cX11_stands, 2, some (.boolean), fun _ => True)
theorem zyX11_stands : zYok YX11_stands 2 := ⟨⟨by decide +kernel, by decide +kernel, by decide +kernel⟩, wc_yX11_stands, wi_RX11, by decide⟩
abbrev YX11_random : zY := (yX11_random, RX11, cX11_random, 8, some (.int), fun _ => True)
theorem zyX11_random : zYok YX11_random 3 := ⟨⟨by decide +kernel, by decide +kernel, by decide +kernel⟩, wc_yX11_random, wi_RX11, by decide⟩
abbrev YX11_output : zY := (yX11_output, RX11, cX11_output, 2, some (.int), fun _ => True)
theorem zyX11_output : zYok YX11_output 1 := ⟨⟨by decide +kernel, by decide +kernel, by decide +kernel⟩, wc_yX11_output, wi_RX11, by decide⟩
abbrev YX11_writeGraph : zY := (yX11_writeGraph, RX11, cX11_writeGraph, 5, some (.int), fun _ => True)
theorem zyX11_writeGraph : zYok YX11_writeGraph 1 := ⟨⟨by decide +kernel, by decide +kernel, by decide +kernel⟩, wc_yX11_writeGraph, wi_RX11, by decide⟩
abbrev YX11_sign : zY := (yX11_sign, RX11, cX11_sign, 2, none, fun _ => True)
theorem zyX11_sign : zYok YX11_sign 1 := ⟨⟨by decide +kernel, by decide +kernel, by decide +kernel⟩, wc_yX11_sign, wi_RX11, by decide⟩
abbrev YX11_essential : zY := (yX11_essential, RX11, cX11_essential, 2, some (.int), fun _ => True)
theorem zyX11_essential : zYok YX11_essential 1 := ⟨⟨by decide +kernel, by decide +kernel, by decide +kernel⟩, wc_yX11_essential, wi_RX11, by decide⟩
abbrev YX11_essentialOf : zY := (yX11_essentialOf, RX11, cX11_essentialOf, 7, some (.int), fun _ => True)
theorem zyX11_essentialOf : zYok YX11_essentialOf 1 := ⟨⟨by decide +kernel, by decide +kernel, by decide +kernel⟩, wc_yX11_essentialOf, wi_RX11, by decide⟩
abbrev YX11_unionOf : zY := (yX11_unionOf, RX11, cX11_unionOf, 3, some (.int), fun _ => True)
theorem zyX11_unionOf : zYok YX11_unionOf 2 := ⟨⟨by decide +kernel, by decide +kernel, by decide +kernel⟩, wc_yX11_unionOf, wi_RX11, by decide⟩
abbrev YX11_isIrreducible : zY := (yX11_isIrreducible, RX11, cX11_isIrreducible, 2, some (.int), fun _ => True)
theorem zyX11_isIrreducible : zYok YX11_isIrreducible 1 := ⟨⟨by decide +kernel, by decide +kernel, by decide +kernel⟩, wc_yX11_isIrreducible, wi_RX11, by decide⟩
abbrev YX11_isWhole : zY := (yX11_isWhole, RX11, cX11_isWhole, 6, some (.boolean), fun _ => True)
theorem zyX11_isWhole : zYok YX11_isWhole 1 := ⟨⟨by decide +kernel, by decide +kernel, by decide +kernel⟩, wc_yX11_isWhole, wi_RX11, by decide⟩
abbrev YX11_step : zY := (yX11_step, RX11, cX11_step, 6, some (.int), fun _ => True)
theorem zyX11_step : zYok YX11_step 3 := ⟨⟨by decide +kernel, by decide +kernel, by decide +kernel⟩, wc_yX11_step, wi_RX11, by decide⟩
abbrev YX11_period : zY := (yX11_period, RX11, cX11_period, 8, some (.int), fun _ => True)
theorem zyX11_period : zYok YX11_period 1 := ⟨⟨by decide +kernel, by decide +kernel, by decide +kernel⟩, wc_yX11_period, wi_RX11, by decide⟩
abbrev YX11_gcd : zY := (yX11_gcd, RX11, cX11_gcd, 10, some (.long), fun _ => True)
theorem zyX11_gcd : zYok YX11_gcd 2 := ⟨⟨by decide +kernel, by decide +kernel, by decide +kernel⟩, wc_yX11_gcd, wi_RX11, by decide⟩
abbrev YX11_words : zY := (yX11_words, RX11, cX11_words, 3, some (.long), fun _ => True)
theorem zyX11_words : zYok YX11_words 2 := ⟨⟨by decide +kernel, by decide +kernel, by decide +kernel⟩, wc_yX11_words, wi_RX11, by decide⟩
abbrev YX11_prepare : zY := (yX11_prepare, RX11, cX11_prepare, 4, none, fun _ => True)
theorem zyX11_prepare : zYok YX11_prepare 1 := ⟨⟨by decide +kernel, by decide +kernel, by decide +kernel⟩, wc_yX11_prepare, wi_RX11, by decide⟩
abbrev YX11_image : zY := (yX11_image, RX11, cX11_image, 6, some (.int), fun _ => True)
theorem zyX11_image : zYok YX11_image 3 := ⟨⟨by decide +kernel, by decide +kernel, by decide +kernel⟩, wc_yX11_image, wi_RX11, by decide⟩
abbrev YX11_countTo : zY := (yX11_countTo, RX11, cX11_countTo, 7, none, fun _ => True)
theorem zyX11_countTo : zYok YX11_countTo 1 := ⟨⟨by decide +kernel, by decide +kernel, by decide +kernel⟩, wc_yX11_countTo, wi_RX11, by decide⟩
abbrev YX11_growth : zY := (yX11_growth, RX11, cX11_growth, 8, some (.long), fun _ => True)
theorem zyX11_growth : zYok YX11_growth 3 := ⟨⟨by decide +kernel, by decide +kernel, by decide +kernel⟩, wc_yX11_growth, wi_RX11, by decide⟩
abbrev YX11_allows : zY := (yX11_allows, RX11, cX11_allows, 3, some (.int), fun _ => True)
theorem zyX11_allows : zYok YX11_allows 1 := ⟨⟨by decide +kernel, by decide +kernel, by decide +kernel⟩, wc_yX11_allows, wi_RX11, by decide⟩
abbrev YX11_readWord : zY := (yX11_readWord, RX11, cX11_readWord, 2, some (.int), fun _ => True)
theorem zyX11_readWord : zYok YX11_readWord 0 := ⟨⟨by decide +kernel, by decide +kernel, by decide +kernel⟩, wc_yX11_readWord, wi_RX11, by decide⟩
abbrev YX11_behind : zY := (yX11_behind, RX11, cX11_behind, 6, some (.int), fun _ => True)
theorem zyX11_behind : zYok YX11_behind 3 := ⟨⟨by decide +kernel, by decide +kernel, by decide +kernel⟩, wc_yX11_behind, wi_RX11, by decide⟩
abbrev YX11_writeWord : zY := (yX11_writeWord, RX11, cX11_writeWord, 12, some (.int), fun _ => True)
theorem zyX11_writeWord : zYok YX11_writeWord 3 := ⟨⟨by decide +kernel, by decide +kernel, by decide +kernel⟩, wc_yX11_writeWord, wi_RX11, by decide⟩
abbrev YX11_writeOut : zY := (yX11_writeOut, RX11, cX11_writeOut, 2, some (.int), fun _ => True)
theorem zyX11_writeOut : zYok YX11_writeOut 0 := ⟨⟨by decide +kernel, by decide +kernel, by decide +kernel⟩, wc_yX11_writeOut, wi_RX11, by decide⟩
abbrev YX11_forbidden : zY := (yX11_forbidden, RX11, cX11_forbidden, 5, some (.int), fun _ => True)
theorem zyX11_forbidden : zYok YX11_forbidden 2 := ⟨⟨by decide +kernel, by decide +kernel, by decide +kernel⟩, wc_yX11_forbidden, wi_RX11, by decide⟩
abbrev YX11_spell : zY := (yX11_spell, RX11, cX11_spell, 4, none, fun _ => True)
theorem zyX11_spell : zYok YX11_spell 2 := ⟨⟨by decide +kernel, by decide +kernel, by decide +kernel⟩, wc_yX11_spell, wi_RX11, by decide⟩
abbrev YX11_isForbidden : zY := (yX11_isForbidden, RX11, cX11_isForbidden, 1, some (.boolean), fun _ => True)
theorem zyX11_isForbidden : zYok YX11_isForbidden 0 := ⟨⟨by decide +kernel, by decide +kernel, by decide +kernel⟩, wc_yX11_isForbidden, wi_RX11, by decide⟩
abbrev YX11_writeForbidden : zY := (yX11_writeForbidden, RX11, cX11_writeForbidden, 6, some (.int), fun _ => True)
theorem zyX11_writeForbidden : zYok YX11_writeForbidden 3 := ⟨⟨by decide +kernel, by decide +kernel, by decide +kernel⟩, wc_yX11_writeForbidden, wi_RX11, by decide⟩
abbrev YX11_periodic : zY := (yX11_periodic, RX11, cX11_periodic, 3, some (.int), fun _ => True)
theorem zyX11_periodic : zYok YX11_periodic 2 := ⟨⟨by decide +kernel, by decide +kernel, by decide +kernel⟩, wc_yX11_periodic, wi_RX11, by decide⟩
abbrev YX11_countPeriodic : zY := (yX11_countPeriodic, RX11, cX11_countPeriodic, 6, some (.int), fun _ => True)
theorem zyX11_countPeriodic : zYok YX11_countPeriodic 3 := ⟨⟨by decide +kernel, by decide +kernel, by decide +kernel⟩, wc_yX11_countPeriodic, wi_RX11, by decide⟩
abbrev YX11_isPrimitive : zY := (yX11_isPrimitive, RX11, cX11_isPrimitive, 4, some (.boolean), fun _ => True)
theorem zyX11_isPrimitive : zYok YX11_isPrimitive 0 := ⟨⟨by decide +kernel, by decide +kernel, by decide +kernel⟩, wc_yX11_isPrimitive, wi_RX11, by decide⟩
abbrev YX11_isPeriodic : zY := (yX11_isPeriodic, RX11, cX11_isPeriodic, 3, some (.boolean), fun _ => True)
theorem zyX11_isPeriodic : zYok YX11_isPeriodic 0 := ⟨⟨by decide +kernel, by decide +kernel, by decide +kernel⟩, wc_yX11_isPeriodic, wi_RX11, by decide⟩
abbrev YX11_orbits : zY := (yX11_orbits, RX11, cX11_orbits, 3, some (.int), fun _ => True)
theorem zyX11_orbits : zYok YX11_orbits 2 := ⟨⟨by decide +kernel, by decide +kernel, by decide +kernel⟩, wc_yX11_orbits, wi_RX11, by decide⟩
abbrev YX11_characteristic : zY := (yX11_characteristic, RX11, cX11_characteristic, 7, some (.long), fun _ => True)
theorem zyX11_characteristic : zYok YX11_characteristic 2 := ⟨⟨by decide +kernel, by decide +kernel, by decide +kernel⟩, wc_yX11_characteristic, wi_RX11, by decide⟩
abbrev YX11_fillMatrix : zY := (yX11_fillMatrix, RX11, cX11_fillMatrix, 6, none, fun _ => True)
theorem zyX11_fillMatrix : zYok YX11_fillMatrix 1 := ⟨⟨by decide +kernel, by decide +kernel, by decide +kernel⟩, wc_yX11_fillMatrix, wi_RX11, by decide⟩
abbrev YX11_place : zY := (yX11_place, RX11, cX11_place, 4, none, fun _ => True)
theorem zyX11_place : zYok YX11_place 1 := ⟨⟨by decide +kernel, by decide +kernel, by decide +kernel⟩, wc_yX11_place, wi_RX11, by decide⟩
abbrev YX11_multiply : zY := (yX11_multiply, RX11, cX11_multiply, 6, none, fun _ => True)
theorem zyX11_multiply : zYok YX11_multiply 0 := ⟨⟨by decide +kernel, by decide +kernel, by decide +kernel⟩, wc_yX11_multiply, wi_RX11, by decide⟩
abbrev YX11_cover : zY := (yX11_cover, RX11, cX11_cover, 5, some (.int), fun _ => True)
theorem zyX11_cover : zYok YX11_cover 2 := ⟨⟨by decide +kernel, by decide +kernel, by decide +kernel⟩, wc_yX11_cover, wi_RX11, by decide⟩
abbrev YX11_findCover : zY := (yX11_findCover, RX11, cX11_findCover, 6, some (.int), fun _ => True)
theorem zyX11_findCover : zYok YX11_findCover 1 := ⟨⟨by decide +kernel, by decide +kernel, by decide +kernel⟩, wc_yX11_findCover, wi_RX11, by decide⟩
abbrev YX11_findMembers : zY := (yX11_findMembers, RX11, cX11_findMembers, 6, some (.int), fun _ => True)
theorem zyX11_findMembers : zYok YX11_findMembers 1 := ⟨⟨by decide +kernel, by decide +kernel, by decide +kernel⟩, wc_yX11_findMembers, wi_RX11, by decide⟩
abbrev YX11_findSets : zY := (yX11_findSets, RX11, cX11_findSets, 4, none, fun _ => True)
theorem zyX11_findSets : zYok YX11_findSets 0 := ⟨⟨by decide +kernel, by decide +kernel, by decide +kernel⟩, wc_yX11_findSets, wi_RX11, by decide⟩
abbrev YX11_clearSeen : zY := (yX11_clearSeen, RX11, cX11_clearSeen, 2, none, fun _ => True)
theorem zyX11_clearSeen : zYok YX11_clearSeen 0 := ⟨⟨by decide +kernel, by decide +kernel, by decide +kernel⟩, wc_yX11_clearSeen, wi_RX11, by decide⟩
abbrev YX11_see : zY := (yX11_see, RX11, cX11_see, 2, none, fun _ => True)
theorem zyX11_see : zYok YX11_see 1 := ⟨⟨by decide +kernel, by decide +kernel, by decide +kernel⟩, wc_yX11_see, wi_RX11, by decide⟩
abbrev YX11_classify : zY := (yX11_classify, RX11, cX11_classify, 4, none, fun _ => True)
theorem zyX11_classify : zYok YX11_classify 0 := ⟨⟨by decide +kernel, by decide +kernel, by decide +kernel⟩, wc_yX11_classify, wi_RX11, by decide⟩
abbrev YX11_isAlike : zY := (yX11_isAlike, RX11, cX11_isAlike, 5, some (.boolean), fun _ => True)
theorem zyX11_isAlike : zYok YX11_isAlike 2 := ⟨⟨by decide +kernel, by decide +kernel, by decide +kernel⟩, wc_yX11_isAlike, wi_RX11, by decide⟩
abbrev YX11_seeFrom : zY := (yX11_seeFrom, RX11, cX11_seeFrom, 5, none, fun _ => True)
theorem zyX11_seeFrom : zYok YX11_seeFrom 1 := ⟨⟨by decide +kernel, by decide +kernel, by decide +kernel⟩, wc_yX11_seeFrom, wi_RX11, by decide⟩
abbrev YX11_memberOf : zY := (yX11_memberOf, RX11, cX11_memberOf, 3, some (.int), fun _ => True)
theorem zyX11_memberOf : zYok YX11_memberOf 1 := ⟨⟨by decide +kernel, by decide +kernel, by decide +kernel⟩, wc_yX11_memberOf, wi_RX11, by decide⟩
abbrev YX11_resetEnd : zY := (yX11_resetEnd, RX11, cX11_resetEnd, 2, some (.int), fun _ => True)
theorem zyX11_resetEnd : zYok YX11_resetEnd 0 := ⟨⟨by decide +kernel, by decide +kernel, by decide +kernel⟩, wc_yX11_resetEnd, wi_RX11, by decide⟩
abbrev YX11_findReset : zY := (yX11_findReset, RX11, cX11_findReset, 6, some (.int), fun _ => True)
theorem zyX11_findReset : zYok YX11_findReset 0 := ⟨⟨by decide +kernel, by decide +kernel, by decide +kernel⟩, wc_yX11_findReset, wi_RX11, by decide⟩
abbrev YX11_led : zY := (yX11_led, RX11, cX11_led, 5, some (.int), fun _ => True)
theorem zyX11_led : zYok YX11_led 2 := ⟨⟨by decide +kernel, by decide +kernel, by decide +kernel⟩, wc_yX11_led, wi_RX11, by decide⟩
abbrev YJ6_numberOfTrailingZeros_0f7a4 : zY := (yJ6_numberOfTrailingZeros_0f7a4, RJ6, cJ6_numberOfTrailingZeros_0f7a4, 2, some (.int), fun _ => True)
theorem zyJ6_numberOfTrailingZeros_0f7a4 : zYok YJ6_numberOfTrailingZeros_0f7a4 1 := ⟨⟨by decide +kernel, by decide +kernel, by decide +kernel⟩, wc_yJ6_numberOfTrailingZeros_0f7a4, wi_RJ6, by decide⟩
abbrev YX11_writeReset : zY := (yX11_writeReset, RX11, cX11_writeReset, 3, some (.int), fun _ => True)
theorem zyX11_writeReset : zYok YX11_writeReset 1 := ⟨⟨by decide +kernel, by decide +kernel, by decide +kernel⟩, wc_yX11_writeReset, wi_RX11, by decide⟩
abbrev YX11_memory : zY := (yX11_memory, RX11, cX11_memory, 8, some (.int), fun _ => True)
theorem zyX11_memory : zYok YX11_memory 1 := ⟨⟨by decide +kernel, by decide +kernel, by decide +kernel⟩, wc_yX11_memory, wi_RX11, by decide⟩
abbrev YX11_isSingle : zY := (yX11_isSingle, RX11, cX11_isSingle, 3, some (.boolean), fun _ => True)
theorem zyX11_isSingle : zYok YX11_isSingle 1 := ⟨⟨by decide +kernel, by decide +kernel, by decide +kernel⟩, wc_yX11_isSingle, wi_RX11, by decide⟩
abbrev YX11_isMixing : zY := (yX11_isMixing, RX11, cX11_isMixing, 8, some (.int), fun _ => True)
theorem zyX11_isMixing : zYok YX11_isMixing 1 := ⟨⟨by decide +kernel, by decide +kernel, by decide +kernel⟩, wc_yX11_isMixing, wi_RX11, by decide⟩
abbrev YX11_writeDifference : zY := (yX11_writeDifference, RX11, cX11_writeDifference, 11, some (.int), fun _ => True)
theorem zyX11_writeDifference : zYok YX11_writeDifference 2 := ⟨⟨by decide +kernel, by decide +kernel, by decide +kernel⟩, wc_yX11_writeDifference, wi_RX11, by decide⟩
abbrev YX11_spellDifference : zY := (yX11_spellDifference, RX11, cX11_spellDifference, 5, some (.int), fun _ => True)
theorem zyX11_spellDifference : zYok YX11_spellDifference 2 := ⟨⟨by decide +kernel, by decide +kernel, by decide +kernel⟩, wc_yX11_spellDifference, wi_RX11, by decide⟩
abbrev YX11_union : zY := (yX11_union, RX11, cX11_union, 5, some (.int), fun _ => True)
theorem zyX11_union : zYok YX11_union 3 := ⟨⟨by decide +kernel, by decide +kernel, by decide +kernel⟩, wc_yX11_union, wi_RX11, by decide⟩
abbrev YX11_append : zY := (yX11_append, RX11, cX11_append, 7, some (.int), fun _ => True)
theorem zyX11_append : zYok YX11_append 2 := ⟨⟨by decide +kernel, by decide +kernel, by decide +kernel⟩, wc_yX11_append, wi_RX11, by decide⟩
abbrev YX11_intersect : zY := (yX11_intersect, RX11, cX11_intersect, 10, some (.int), fun _ => True)
theorem zyX11_intersect : zYok YX11_intersect 3 := ⟨⟨by decide +kernel, by decide +kernel, by decide +kernel⟩, wc_yX11_intersect, wi_RX11, by decide⟩
abbrev YX11_clearWide : zY := (yX11_clearWide, RX11, cX11_clearWide, 2, none, fun _ => True)
theorem zyX11_clearWide : zYok YX11_clearWide 0 := ⟨⟨by decide +kernel, by decide +kernel, by decide +kernel⟩, wc_yX11_clearWide, wi_RX11, by decide⟩
abbrev YX11_storeWide : zY := (yX11_storeWide, RX11, cX11_storeWide, 5, some (.int), fun _ => True)
theorem zyX11_storeWide : zYok YX11_storeWide 1 := ⟨⟨by decide +kernel, by decide +kernel, by decide +kernel⟩, wc_yX11_storeWide, wi_RX11, by decide⟩
abbrev YX11_wideEssential : zY := (yX11_wideEssential, RX11, cX11_wideEssential, 10, some (.long), fun _ => True)
theorem zyX11_wideEssential : zYok YX11_wideEssential 0 := ⟨⟨by decide +kernel, by decide +kernel, by decide +kernel⟩, wc_yX11_wideEssential, wi_RX11, by decide⟩
abbrev YX11_wideUnion : zY := (yX11_wideUnion, RX11, cX11_wideUnion, 2, some (.long), fun _ => True)
theorem zyX11_wideUnion : zYok YX11_wideUnion 1 := ⟨⟨by decide +kernel, by decide +kernel, by decide +kernel⟩, wc_yX11_wideUnion, wi_RX11, by decide⟩
abbrev YX11_reverse : zY := (yX11_reverse, RX11, cX11_reverse, 6, some (.int), fun _ => True)
theorem zyX11_reverse : zYok YX11_reverse 2 := ⟨⟨by decide +kernel, by decide +kernel, by decide +kernel⟩, wc_yX11_reverse, wi_RX11, by decide⟩
abbrev YX11_relabel : zY := (yX11_relabel, RX11, cX11_relabel, 7, some (.int), fun _ => True)
theorem zyX11_relabel : zYok YX11_relabel 4 := ⟨⟨by decide +kernel, by decide +kernel, by decide +kernel⟩, wc_yX11_relabel, wi_RX11, by decide⟩
abbrev YX11_forbid : zY := (yX11_forbid, RX11, cX11_forbid, 10, some (.int), fun _ => True)
theorem zyX11_forbid : zYok YX11_forbid 2 := ⟨⟨by decide +kernel, by decide +kernel, by decide +kernel⟩, wc_yX11_forbid, wi_RX11, by decide⟩
abbrev YX11_border : zY := (yX11_border, RX11, cX11_border, 6, some (.int), fun _ => True)
theorem zyX11_border : zYok YX11_border 2 := ⟨⟨by decide +kernel, by decide +kernel, by decide +kernel⟩, wc_yX11_border, wi_RX11, by decide⟩
abbrev YX11_undo : zY := (yX11_undo, RX11, cX11_undo, 2, some (.int), fun _ => True)
theorem zyX11_undo : zYok YX11_undo 0 := ⟨⟨by decide +kernel, by decide +kernel, by decide +kernel⟩, wc_yX11_undo, wi_RX11, by decide⟩
abbrev YX11_save : zY := (yX11_save, RX11, cX11_save, 2, some (.int), fun _ => True)
theorem zyX11_save : zYok YX11_save 0 := ⟨⟨by decide +kernel, by decide +kernel, by decide +kernel⟩, wc_yX11_save, wi_RX11, by decide⟩
abbrev YX11_total : zY := (yX11_total, RX11, cX11_total, 3, some (.int), fun _ => True)
theorem zyX11_total : zYok YX11_total 0 := ⟨⟨by decide +kernel, by decide +kernel, by decide +kernel⟩, wc_yX11_total, wi_RX11, by decide⟩
abbrev YX11_restore : zY := (yX11_restore, RX11, cX11_restore, 2, some (.int), fun _ => True)
theorem zyX11_restore : zYok YX11_restore 0 := ⟨⟨by decide +kernel, by decide +kernel, by decide +kernel⟩, wc_yX11_restore, wi_RX11, by decide⟩
abbrev YX11_createArray : zY := (yX11_createArray, RX11, cX11_createArray, 5, some (.int), fun _ => True)
theorem zyX11_createArray : zYok YX11_createArray 3 := ⟨⟨by decide +kernel, by decide +kernel, by decide +kernel⟩, wc_yX11_createArray, wi_RX11, by decide⟩
abbrev YX11_isArray : zY := (yX11_isArray, RX11, cX11_isArray, 1, some (.boolean), fun _ => True)
theorem zyX11_isArray : zYok YX11_isArray 1 := ⟨⟨by decide +kernel, by decide +kernel, by decide +kernel⟩, wc_yX11_isArray, wi_RX11, by decide⟩
abbrev YX11_setElement : zY := (yX11_setElement, RX11, cX11_setElement, 4, some (.int), fun _ => True)
theorem zyX11_setElement : zYok YX11_setElement 3 := ⟨⟨by decide +kernel, by decide +kernel, by decide +kernel⟩, wc_yX11_setElement, wi_RX11, by decide⟩
abbrev YX11_isIndex : zY := (yX11_isIndex, RX11, cX11_isIndex, 3, some (.boolean), fun _ => True)
theorem zyX11_isIndex : zYok YX11_isIndex 2 := ⟨⟨by decide +kernel, by decide +kernel, by decide +kernel⟩, wc_yX11_isIndex, wi_RX11, by decide⟩
abbrev YX11_setNaN : zY := (yX11_setNaN, RX11, cX11_setNaN, 3, some (.int), fun _ => True)
theorem zyX11_setNaN : zYok YX11_setNaN 2 := ⟨⟨by decide +kernel, by decide +kernel, by decide +kernel⟩, wc_yX11_setNaN, wi_RX11, by decide⟩
abbrev YX11_compareElements : zY := (yX11_compareElements, RX11, cX11_compareElements, 6, some (.int), fun _ => True)
theorem zyX11_compareElements : zYok YX11_compareElements 3 := ⟨⟨by decide +kernel, by decide +kernel, by decide +kernel⟩, wc_yX11_compareElements, wi_RX11, by decide⟩
abbrev YX11_checkCounts : zY := (yX11_checkCounts, RX11, cX11_checkCounts, 4, some (.int), fun _ => True)
theorem zyX11_checkCounts : zYok YX11_checkCounts 2 := ⟨⟨by decide +kernel, by decide +kernel, by decide +kernel⟩, wc_yX11_checkCounts, wi_RX11, by decide⟩
abbrev YX11_holds : zY := (yX11_holds, RX11, cX11_holds, 5, some (.boolean), fun _ => True)
theorem zyX11_holds : zYok YX11_holds 3 := ⟨⟨by decide +kernel, by decide +kernel, by decide +kernel⟩, wc_yX11_holds, wi_RX11, by decide⟩
