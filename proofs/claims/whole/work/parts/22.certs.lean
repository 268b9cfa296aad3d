def MX11_init : mM := (yX11_init, cX11_init, 2, none)
abbrev JX11_init : mJ := m_J MX11_init
def MX7_init : mM := (yX7_init, cX7_init, 2, none)
abbrev JX7_init : mJ := m_J MX7_init
def MX7_begin : mM := (yX7_begin, cX7_begin, 3, none)
abbrev JX7_begin : mJ := m_J MX7_begin
def MJ7_fill_53178 : mM := (yJ7_fill_53178, cJ7_fill_53178, 4, none)
abbrev JJ7_fill_53178 : mJ := m_J MJ7_fill_53178
def MX3_init : mM := (yX3_init, cX3_init, 1, none)
abbrev JX3_init : mJ := m_J MX3_init
def MX6_init : mM := (yX6_init, cX6_init, 1, none)
abbrev JX6_init : mJ := m_J MX6_init
def MX2_init : mM := (yX2_init, cX2_init, 1, none)
abbrev JX2_init : mJ := m_J MX2_init
def MX8_init : mM := (yX8_init, cX8_init, 1, none)
abbrev JX8_init : mJ := m_J MX8_init
def MX11_row : mM := (yX11_row, cX11_row, 4, some .int)
abbrev JX11_row : mJ := m_J MX11_row
def MX11_noRow : mM := (yX11_noRow, cX11_noRow, 1, some .boolean)
abbrev JX11_noRow : mJ := m_J MX11_noRow
def MX11_found : mM := (yX11_found, cX11_found, 2, some .int)
abbrev JX11_found : mJ := m_J MX11_found
def MX11_fine : mM := (yX11_fine, cX11_fine, 2, some .int)
abbrev JX11_fine : mJ := m_J MX11_fine
def MX11_set : mM := (yX11_set, cX11_set, 5, some .int)
abbrev JX11_set : mJ := m_J MX11_set
def MX7_missing : mM := (yX7_missing, cX7_missing, 1, some .boolean)
abbrev JX7_missing : mJ := m_J MX7_missing
def MX7_holds : mM := (yX7_holds, cX7_holds, 3, some .boolean)
abbrev JX7_holds : mJ := m_J MX7_holds
def MX7_put : mM := (yX7_put, cX7_put, 3, some .int)
abbrev JX7_put : mJ := m_J MX7_put
def MX11_copy : mM := (yX11_copy, cX11_copy, 8, some .int)
abbrev JX11_copy : mJ := m_J MX11_copy
def MX7_take : mM := (yX7_take, cX7_take, 5, none)
abbrev JX7_take : mJ := m_J MX7_take
def MX11_drop : mM := (yX11_drop, cX11_drop, 4, some .int)
abbrev JX11_drop : mJ := m_J MX11_drop
def MX7_end : mM := (yX7_end, cX7_end, 1, none)
abbrev JX7_end : mJ := m_J MX7_end
def MX11_cover : mM := (yX11_cover, cX11_cover, 11, some .int)
abbrev JX11_cover : mJ := m_J MX11_cover
def MX11_noPlace : mM := (yX11_noPlace, cX11_noPlace, 1, some .boolean)
abbrev JX11_noPlace : mJ := m_J MX11_noPlace
def MX5_still : mM := (yX5_still, cX5_still, 4, some .long)
abbrev JX5_still : mJ := m_J MX5_still
def MX5_with : mM := (yX5_with, cX5_with, 4, some .long)
abbrev JX5_with : mJ := m_J MX5_with
def MX7_orderFrom : mM := (yX7_orderFrom, cX7_orderFrom, 8, some .long)
abbrev JX7_orderFrom : mJ := m_J MX7_orderFrom
def MX7_item : mM := (yX7_item, cX7_item, 2, some .int)
abbrev JX7_item : mJ := m_J MX7_item
def MX5_behind : mM := (yX5_behind, cX5_behind, 8, some .long)
abbrev JX5_behind : mJ := m_J MX5_behind
def MX5_at : mM := (yX5_at, cX5_at, 3, some .int)
abbrev JX5_at : mJ := m_J MX5_at
def MX5_inverse : mM := (yX5_inverse, cX5_inverse, 6, some .long)
abbrev JX5_inverse : mJ := m_J MX5_inverse
def MX1_of : mM := (yX1_of, cX1_of, 5, some (.object "SphereSheets$Cover"))
abbrev JX1_of : mJ := m_J MX1_of
def MX5_ledTogether : mM := (yX5_ledTogether, cX5_ledTogether, 5, some .long)
abbrev JX5_ledTogether : mJ := m_J MX5_ledTogether
def MX5_mergedAlong : mM := (yX5_mergedAlong, cX5_mergedAlong, 10, some .long)
abbrev JX5_mergedAlong : mJ := m_J MX5_mergedAlong
def MX5_merged : mM := (yX5_merged, cX5_merged, 11, some .long)
abbrev JX5_merged : mJ := m_J MX5_merged
def MJ9_min_7cf53 : mM := (yJ9_min_7cf53, cJ9_min_7cf53, 2, some .int)
abbrev JJ9_min_7cf53 : mJ := m_J MJ9_min_7cf53
def MJ9_max_7cf53 : mM := (yJ9_max_7cf53, cJ9_max_7cf53, 2, some .int)
abbrev JJ9_max_7cf53 : mJ := m_J MJ9_max_7cf53
def MX5_groups : mM := (yX5_groups, cX5_groups, 3, some .int)
abbrev JX5_groups : mJ := m_J MX5_groups
def MX5_leaders : mM := (yX5_leaders, cX5_leaders, 5, some .int)
abbrev JX5_leaders : mJ := m_J MX5_leaders
def MJ6_bitCount_0f7a4 : mM := (yJ6_bitCount_0f7a4, cJ6_bitCount_0f7a4, 1, some .int)
abbrev JJ6_bitCount_0f7a4 : mJ := m_J MJ6_bitCount_0f7a4
def MX1_exchangesAhead : mM := (yX1_exchangesAhead, cX1_exchangesAhead, 5, some .boolean)
abbrev JX1_exchangesAhead : mJ := m_J MX1_exchangesAhead
def MX8_one : mM := (yX8_one, cX8_one, 1, some .long)
abbrev JX8_one : mJ := m_J MX8_one
def MX8_lengthsOf : mM := (yX8_lengthsOf, cX8_lengthsOf, 10, some .long)
abbrev JX8_lengthsOf : mJ := m_J MX8_lengthsOf
def MX9_init : mM := (yX9_init, cX9_init, 4, none)
abbrev JX9_init : mJ := m_J MX9_init
def MX1_init : mM := (yX1_init, cX1_init, 4, none)
abbrev JX1_init : mJ := m_J MX1_init
def MX10_init : mM := (yX10_init, cX10_init, 4, none)
abbrev JX10_init : mJ := m_J MX10_init
def MX0_init : mM := (yX0_init, cX0_init, 4, none)
abbrev JX0_init : mJ := m_J MX0_init
def MX4_init : mM := (yX4_init, cX4_init, 4, none)
abbrev JX4_init : mJ := m_J MX4_init
def MX11_shelve : mM := (yX11_shelve, cX11_shelve, 3, some .int)
abbrev JX11_shelve : mJ := m_J MX11_shelve
def MX0_kindNumber : mM := (yX0_kindNumber, cX0_kindNumber, 1, some .int)
abbrev JX0_kindNumber : mJ := m_J MX0_kindNumber
def MX4_kindNumber : mM := (yX4_kindNumber, cX4_kindNumber, 1, some .int)
abbrev JX4_kindNumber : mJ := m_J MX4_kindNumber
def MX9_kindNumber : mM := (yX9_kindNumber, cX9_kindNumber, 1, some .int)
abbrev JX9_kindNumber : mJ := m_J MX9_kindNumber
def MX10_kindNumber : mM := (yX10_kindNumber, cX10_kindNumber, 1, some .int)
abbrev JX10_kindNumber : mJ := m_J MX10_kindNumber
def MX1_kindNumber : mM := (yX1_kindNumber, cX1_kindNumber, 1, some .int)
abbrev JX1_kindNumber : mJ := m_J MX1_kindNumber
def MX11_part : mM := (yX11_part, cX11_part, 5, some .int)
abbrev JX11_part : mJ := m_J MX11_part
def MX1_partAlone : mM := (yX1_partAlone, cX1_partAlone, 6, some (.object "SphereSheets$Cover"))
abbrev JX1_partAlone : mJ := m_J MX1_partAlone
def MX1_narrowed : mM := (yX1_narrowed, cX1_narrowed, 9, some (.array .long))
abbrev JX1_narrowed : mJ := m_J MX1_narrowed
def MX11_name : mM := (yX11_name, cX11_name, 4, some .int)
abbrev JX11_name : mJ := m_J MX11_name
def MX1_whole : mM := (yX1_whole, cX1_whole, 1, some .boolean)
abbrev JX1_whole : mJ := m_J MX1_whole
def MX3_find : mM := (yX3_find, cX3_find, 9, none)
abbrev JX3_find : mJ := m_J MX3_find
def MX3_numberFrom : mM := (yX3_numberFrom, cX3_numberFrom, 12, some .boolean)
abbrev JX3_numberFrom : mJ := m_J MX3_numberFrom
def MX3_againstLeast : mM := (yX3_againstLeast, cX3_againstLeast, 5, some .int)
abbrev JX3_againstLeast : mJ := m_J MX3_againstLeast
def MX3_renamed : mM := (yX3_renamed, cX3_renamed, 8, some .long)
abbrev JX3_renamed : mJ := m_J MX3_renamed
def MJ13_compare_74951 : mM := (yJ13_compare_74951, cJ13_compare_74951, 4, some .int)
abbrev JJ13_compare_74951 : mJ := m_J MJ13_compare_74951
def MX3_keepAsLeast : mM := (yX3_keepAsLeast, cX3_keepAsLeast, 4, none)
abbrev JX3_keepAsLeast : mJ := m_J MX3_keepAsLeast
def MX5_withFirst : mM := (yX5_withFirst, cX5_withFirst, 5, some .int)
abbrev JX5_withFirst : mJ := m_J MX5_withFirst
def MJ7_copyOf_c38d5 : mM := (yJ7_copyOf_c38d5, cJ7_copyOf_c38d5, 3, some (.array .long))
abbrev JJ7_copyOf_c38d5 : mJ := m_J MJ7_copyOf_c38d5
def MX11_between : mM := (yX11_between, cX11_between, 6, some .int)
abbrev JX11_between : mJ := m_J MX11_between
def MX1_noSheet : mM := (yX1_noSheet, cX1_noSheet, 2, some .boolean)
abbrev JX1_noSheet : mJ := m_J MX1_noSheet
def MX1_ofBlocks : mM := (yX1_ofBlocks, cX1_ofBlocks, 6, some (.object "SphereSheets$Cover"))
abbrev JX1_ofBlocks : mJ := m_J MX1_ofBlocks
def MX1_blockLabels : mM := (yX1_blockLabels, cX1_blockLabels, 9, some .long)
abbrev JX1_blockLabels : mJ := m_J MX1_blockLabels
def MX11_braid : mM := (yX11_braid, cX11_braid, 6, some .int)
abbrev JX11_braid : mJ := m_J MX11_braid
def MX1_ledPast : mM := (yX1_ledPast, cX1_ledPast, 4, some (.object "SphereSheets$Cover"))
abbrev JX1_ledPast : mJ := m_J MX1_ledPast
def MX5_leadForward : mM := (yX5_leadForward, cX5_leadForward, 7, none)
abbrev JX5_leadForward : mJ := m_J MX5_leadForward
def MX5_leadBack : mM := (yX5_leadBack, cX5_leadBack, 7, none)
abbrev JX5_leadBack : mJ := m_J MX5_leadBack
def MX11_turn : mM := (yX11_turn, cX11_turn, 5, some .int)
abbrev JX11_turn : mJ := m_J MX11_turn
def MX1_mirror : mM := (yX1_mirror, cX1_mirror, 4, some (.object "SphereSheets$Cover"))
abbrev JX1_mirror : mJ := m_J MX1_mirror
def MX11_over : mM := (yX11_over, cX11_over, 6, some .int)
abbrev JX11_over : mJ := m_J MX11_over
def MX1_laidOver : mM := (yX1_laidOver, cX1_laidOver, 7, some (.object "SphereSheets$Cover"))
abbrev JX1_laidOver : mJ := m_J MX1_laidOver
def MX1_turnAt : mM := (yX1_turnAt, cX1_turnAt, 2, some .long)
abbrev JX1_turnAt : mJ := m_J MX1_turnAt
def MX1_noTurn : mM := (yX1_noTurn, cX1_noTurn, 2, some .boolean)
abbrev JX1_noTurn : mJ := m_J MX1_noTurn
def MX11_clear : mM := (yX11_clear, cX11_clear, 3, some .int)
abbrev JX11_clear : mJ := m_J MX11_clear
def MX11_told : mM := (yX11_told, cX11_told, 4, some .int)
abbrev JX11_told : mJ := m_J MX11_told
def MX11_tellOf : mM := (yX11_tellOf, cX11_tellOf, 3, some .int)
abbrev JX11_tellOf : mJ := m_J MX11_tellOf
def MX1_holes : mM := (yX1_holes, cX1_holes, 3, some .int)
abbrev JX1_holes : mJ := m_J MX1_holes
def MX1_rounds : mM := (yX1_rounds, cX1_rounds, 2, some .int)
abbrev JX1_rounds : mJ := m_J MX1_rounds
def MX8_total : mM := (yX8_total, cX8_total, 4, some .int)
abbrev JX8_total : mJ := m_J MX8_total
def MX8_times : mM := (yX8_times, cX8_times, 3, some .int)
abbrev JX8_times : mJ := m_J MX8_times
def MX2_orders : mM := (yX2_orders, cX2_orders, 5, some .int)
abbrev JX2_orders : mJ := m_J MX2_orders
def MJ7_fill_d0a16 : mM := (yJ7_fill_d0a16, cJ7_fill_d0a16, 5, none)
abbrev JJ7_fill_d0a16 : mJ := m_J MJ7_fill_d0a16
def MX2_sift : mM := (yX2_sift, cX2_sift, 9, none)
abbrev JX2_sift : mJ := m_J MX2_sift
def MX2_product : mM := (yX2_product, cX2_product, 6, some .int)
abbrev JX2_product : mJ := m_J MX2_product
def MX11_leads : mM := (yX11_leads, cX11_leads, 5, some .int)
abbrev JX11_leads : mJ := m_J MX11_leads
def MX11_shape : mM := (yX11_shape, cX11_shape, 5, some .int)
abbrev JX11_shape : mJ := m_J MX11_shape
def MX8_lengthAt : mM := (yX8_lengthAt, cX8_lengthAt, 5, some .int)
abbrev JX8_lengthAt : mJ := m_J MX8_lengthAt
def MX11_block : mM := (yX11_block, cX11_block, 8, some .int)
abbrev JX11_block : mJ := m_J MX11_block
def MX11_same : mM := (yX11_same, cX11_same, 5, some .int)
abbrev JX11_same : mJ := m_J MX11_same
def MX11_alike : mM := (yX11_alike, cX11_alike, 6, some .boolean)
abbrev JX11_alike : mJ := m_J MX11_alike
def MX11_ring : mM := (yX11_ring, cX11_ring, 4, some .int)
abbrev JX11_ring : mJ := m_J MX11_ring
def MX6_walk : mM := (yX6_walk, cX6_walk, 6, some .int)
abbrev JX6_walk : mJ := m_J MX6_walk
def MX6_keep : mM := (yX6_keep, cX6_keep, 2, none)
abbrev JX6_keep : mJ := m_J MX6_keep
def MX6_known : mM := (yX6_known, cX6_known, 3, some .boolean)
abbrev JX6_known : mJ := m_J MX6_known
def MX6_isLeastAt : mM := (yX6_isLeastAt, cX6_isLeastAt, 4, some .boolean)
abbrev JX6_isLeastAt : mJ := m_J MX6_isLeastAt
def MX11_lift : mM := (yX11_lift, cX11_lift, 11, some .int)
abbrev JX11_lift : mJ := m_J MX11_lift
def MX1_noStep : mM := (yX1_noStep, cX1_noStep, 2, some .boolean)
abbrev JX1_noStep : mJ := m_J MX1_noStep
def MX1_stepped : mM := (yX1_stepped, cX1_stepped, 3, some .int)
abbrev JX1_stepped : mJ := m_J MX1_stepped
def MX11_kind : mM := (yX11_kind, cX11_kind, 3, some .int)
abbrev JX11_kind : mJ := m_J MX11_kind
def MX11_is : mM := (yX11_is, cX11_is, 3, some .int)
abbrev JX11_is : mJ := m_J MX11_is
def MX11_ofKind : mM := (yX11_ofKind, cX11_ofKind, 2, some .boolean)
abbrev JX11_ofKind : mJ := m_J MX11_ofKind
def MX11_as : mM := (yX11_as, cX11_as, 4, some .int)
abbrev JX11_as : mJ := m_J MX11_as
def MX11_ask : mM := (yX11_ask, cX11_ask, 4, some .int)
abbrev JX11_ask : mJ := m_J MX11_ask
def MX0_sizeAsked : mM := (yX0_sizeAsked, cX0_sizeAsked, 2, some .int)
abbrev JX0_sizeAsked : mJ := m_J MX0_sizeAsked
def MX7_add : mM := (yX7_add, cX7_add, 2, none)
abbrev JX7_add : mJ := m_J MX7_add
def MX10_sizeAsked : mM := (yX10_sizeAsked, cX10_sizeAsked, 2, some .int)
abbrev JX10_sizeAsked : mJ := m_J MX10_sizeAsked
def MX4_sizeAsked : mM := (yX4_sizeAsked, cX4_sizeAsked, 3, some .int)
abbrev JX4_sizeAsked : mJ := m_J MX4_sizeAsked
def MX4_markAsked : mM := (yX4_markAsked, cX4_markAsked, 2, some .int)
abbrev JX4_markAsked : mJ := m_J MX4_markAsked
def MX10_markAsked : mM := (yX10_markAsked, cX10_markAsked, 2, some .int)
abbrev JX10_markAsked : mJ := m_J MX10_markAsked
def MX1_markAsked : mM := (yX1_markAsked, cX1_markAsked, 2, some .int)
abbrev JX1_markAsked : mJ := m_J MX1_markAsked
def MX9_sizeAsked : mM := (yX9_sizeAsked, cX9_sizeAsked, 2, some .int)
abbrev JX9_sizeAsked : mJ := m_J MX9_sizeAsked
def MX1_sizeAsked : mM := (yX1_sizeAsked, cX1_sizeAsked, 2, some .int)
abbrev JX1_sizeAsked : mJ := m_J MX1_sizeAsked
def MX11_trace : mM := (yX11_trace, cX11_trace, 2, some .int)
abbrev JX11_trace : mJ := m_J MX11_trace
def MX11_joins : mM := (yX11_joins, cX11_joins, 4, some .long)
abbrev JX11_joins : mJ := m_J MX11_joins
def MX8_prepare : mM := (yX8_prepare, cX8_prepare, 4, none)
abbrev JX8_prepare : mJ := m_J MX8_prepare
def MX8_listAll : mM := (yX8_listAll, cX8_listAll, 5, none)
abbrev JX8_listAll : mJ := m_J MX8_listAll
def MX8_nextBelow : mM := (yX8_nextBelow, cX8_nextBelow, 10, some .long)
abbrev JX8_nextBelow : mJ := m_J MX8_nextBelow
def MX8_cutAndJoined : mM := (yX8_cutAndJoined, cX8_cutAndJoined, 13, some .long)
abbrev JX8_cutAndJoined : mJ := m_J MX8_cutAndJoined
def MX8_cut : mM := (yX8_cut, cX8_cut, 11, some .long)
abbrev JX8_cut : mJ := m_J MX8_cut
def MX8_indexOf : mM := (yX8_indexOf, cX8_indexOf, 4, some .int)
abbrev JX8_indexOf : mJ := m_J MX8_indexOf
def MX8_rowsOf : mM := (yX8_rowsOf, cX8_rowsOf, 3, some .long)
abbrev JX8_rowsOf : mJ := m_J MX8_rowsOf
def MX8_lacks : mM := (yX8_lacks, cX8_lacks, 2, some .boolean)
abbrev JX8_lacks : mJ := m_J MX8_lacks
def MX11_shapes : mM := (yX11_shapes, cX11_shapes, 4, some .int)
abbrev JX11_shapes : mJ := m_J MX11_shapes
def MX8_lengthsAt : mM := (yX8_lengthsAt, cX8_lengthsAt, 2, some .long)
abbrev JX8_lengthsAt : mJ := m_J MX8_lengthsAt
def MX11_count : mM := (yX11_count, cX11_count, 2, some .int)
abbrev JX11_count : mJ := m_J MX11_count
def MX11_rowsThere : mM := (yX11_rowsThere, cX11_rowsThere, 3, some .int)
abbrev JX11_rowsThere : mJ := m_J MX11_rowsThere
def MX11_coversThere : mM := (yX11_coversThere, cX11_coversThere, 5, some .int)
abbrev JX11_coversThere : mJ := m_J MX11_coversThere
def MX11_status : mM := (yX11_status, cX11_status, 1, some .int)
abbrev JX11_status : mJ := m_J MX11_status
def MX12_init : mM := (yX12_init, cX12_init, 1, none)
abbrev JX12_init : mJ := m_J MX12_init
def MX12_row : mM := (yX12_row, cX12_row, 5, some .int)
abbrev JX12_row : mJ := m_J MX12_row
def MX12_isRow : mM := (yX12_isRow, cX12_isRow, 1, some .boolean)
abbrev JX12_isRow : mJ := m_J MX12_isRow
def MX12_in : mM := (yX12_in, cX12_in, 6, some .boolean)
abbrev JX12_in : mJ := m_J MX12_in
def MX12_found : mM := (yX12_found, cX12_found, 2, some .int)
abbrev JX12_found : mJ := m_J MX12_found
def MX12_set : mM := (yX12_set, cX12_set, 4, some .int)
abbrev JX12_set : mJ := m_J MX12_set
def MX12_copy : mM := (yX12_copy, cX12_copy, 9, some .int)
abbrev JX12_copy : mJ := m_J MX12_copy
def MX12_drop : mM := (yX12_drop, cX12_drop, 2, some .int)
abbrev JX12_drop : mJ := m_J MX12_drop
def MX12_cover : mM := (yX12_cover, cX12_cover, 10, some .int)
abbrev JX12_cover : mJ := m_J MX12_cover
def MX12_isPlace : mM := (yX12_isPlace, cX12_isPlace, 1, some .boolean)
abbrev JX12_isPlace : mJ := m_J MX12_isPlace
def MX12_put : mM := (yX12_put, cX12_put, 5, none)
abbrev JX12_put : mJ := m_J MX12_put
def MX12_lay : mM := (yX12_lay, cX12_lay, 2, some .int)
abbrev JX12_lay : mJ := m_J MX12_lay
def MX12_become : mM := (yX12_become, cX12_become, 4, none)
abbrev JX12_become : mJ := m_J MX12_become
def MX12_kindOf : mM := (yX12_kindOf, cX12_kindOf, 7, some .int)
abbrev JX12_kindOf : mJ := m_J MX12_kindOf
def MX12_at : mM := (yX12_at, cX12_at, 4, some .int)
abbrev JX12_at : mJ := m_J MX12_at
def MX12_rounds : mM := (yX12_rounds, cX12_rounds, 8, some .int)
abbrev JX12_rounds : mJ := m_J MX12_rounds
def MX12_part : mM := (yX12_part, cX12_part, 9, some .int)
abbrev JX12_part : mJ := m_J MX12_part
def MX12_look : mM := (yX12_look, cX12_look, 3, some .int)
abbrev JX12_look : mJ := m_J MX12_look
def MX12_parts : mM := (yX12_parts, cX12_parts, 9, some .int)
abbrev JX12_parts : mJ := m_J MX12_parts
def MX12_name : mM := (yX12_name, cX12_name, 5, some .int)
abbrev JX12_name : mJ := m_J MX12_name
def MX12_least : mM := (yX12_least, cX12_least, 6, some .int)
abbrev JX12_least : mJ := m_J MX12_least
def MX12_rename : mM := (yX12_rename, cX12_rename, 9, none)
abbrev JX12_rename : mJ := m_J MX12_rename
def MX12_compare : mM := (yX12_compare, cX12_compare, 5, some .int)
abbrev JX12_compare : mJ := m_J MX12_compare
def MX12_between : mM := (yX12_between, cX12_between, 10, some .int)
abbrev JX12_between : mJ := m_J MX12_between
def MX12_isSheet : mM := (yX12_isSheet, cX12_isSheet, 3, some .boolean)
abbrev JX12_isSheet : mJ := m_J MX12_isSheet
def MX12_blocks : mM := (yX12_blocks, cX12_blocks, 9, some .int)
abbrev JX12_blocks : mJ := m_J MX12_blocks
def MX12_merge : mM := (yX12_merge, cX12_merge, 7, none)
abbrev JX12_merge : mJ := m_J MX12_merge
def MX12_braid : mM := (yX12_braid, cX12_braid, 7, some .int)
abbrev JX12_braid : mJ := m_J MX12_braid
def MX12_braided : mM := (yX12_braided, cX12_braided, 6, none)
abbrev JX12_braided : mJ := m_J MX12_braided
def MX12_backAt : mM := (yX12_backAt, cX12_backAt, 5, some .int)
abbrev JX12_backAt : mJ := m_J MX12_backAt
def MX12_turn : mM := (yX12_turn, cX12_turn, 7, some .int)
abbrev JX12_turn : mJ := m_J MX12_turn
def MX12_over : mM := (yX12_over, cX12_over, 7, some .int)
abbrev JX12_over : mJ := m_J MX12_over
def MX12_clear : mM := (yX12_clear, cX12_clear, 3, some .int)
abbrev JX12_clear : mJ := m_J MX12_clear
def MX12_told : mM := (yX12_told, cX12_told, 7, some .int)
abbrev JX12_told : mJ := m_J MX12_told
def MX12_heap : mM := (yX12_heap, cX12_heap, 8, some .int)
abbrev JX12_heap : mJ := m_J MX12_heap
def MX12_sift : mM := (yX12_sift, cX12_sift, 7, some .boolean)
abbrev JX12_sift : mJ := m_J MX12_sift
def MX12_leads : mM := (yX12_leads, cX12_leads, 6, some .int)
abbrev JX12_leads : mJ := m_J MX12_leads
def MX12_shape : mM := (yX12_shape, cX12_shape, 7, some .int)
abbrev JX12_shape : mJ := m_J MX12_shape
def MX12_block : mM := (yX12_block, cX12_block, 8, some .int)
abbrev JX12_block : mJ := m_J MX12_block
def MX12_same : mM := (yX12_same, cX12_same, 5, some .int)
abbrev JX12_same : mJ := m_J MX12_same
def MX12_ring : mM := (yX12_ring, cX12_ring, 10, some .int)
abbrev JX12_ring : mJ := m_J MX12_ring
def MX12_isName : mM := (yX12_isName, cX12_isName, 3, some .boolean)
abbrev JX12_isName : mJ := m_J MX12_isName
def MX12_lift : mM := (yX12_lift, cX12_lift, 12, some .int)
abbrev JX12_lift : mJ := m_J MX12_lift
def MX12_kind : mM := (yX12_kind, cX12_kind, 3, some .int)
abbrev JX12_kind : mJ := m_J MX12_kind
def MX12_is : mM := (yX12_is, cX12_is, 3, some .int)
abbrev JX12_is : mJ := m_J MX12_is
def MX12_isOf : mM := (yX12_isOf, cX12_isOf, 2, some .boolean)
abbrev JX12_isOf : mJ := m_J MX12_isOf
def MX12_as : mM := (yX12_as, cX12_as, 4, some .int)
abbrev JX12_as : mJ := m_J MX12_as
def MX12_ask : mM := (yX12_ask, cX12_ask, 4, some .int)
abbrev JX12_ask : mJ := m_J MX12_ask
def MX12_sized : mM := (yX12_sized, cX12_sized, 4, some .int)
abbrev JX12_sized : mJ := m_J MX12_sized
def MX12_began : mM := (yX12_began, cX12_began, 2, none)
abbrev JX12_began : mJ := m_J MX12_began
def MX12_marked : mM := (yX12_marked, cX12_marked, 3, some .int)
abbrev JX12_marked : mJ := m_J MX12_marked
def MX12_trace : mM := (yX12_trace, cX12_trace, 2, some .int)
abbrev JX12_trace : mJ := m_J MX12_trace
def MX12_joins : mM := (yX12_joins, cX12_joins, 12, some .long)
abbrev JX12_joins : mJ := m_J MX12_joins
def MX12_findShapes : mM := (yX12_findShapes, cX12_findShapes, 8, none)
abbrev JX12_findShapes : mJ := m_J MX12_findShapes
def MX12_changed : mM := (yX12_changed, cX12_changed, 13, some .int)
abbrev JX12_changed : mJ := m_J MX12_changed
def MX12_shapes : mM := (yX12_shapes, cX12_shapes, 4, some .int)
abbrev JX12_shapes : mJ := m_J MX12_shapes
def MX12_count : mM := (yX12_count, cX12_count, 4, some .int)
abbrev JX12_count : mJ := m_J MX12_count
def MX12_status : mM := (yX12_status, cX12_status, 1, some .int)
abbrev JX12_status : mJ := m_J MX12_status
theorem cb_X11_init : m_cB MX11_init 0 := ⟨wd_48, wd_70, ⟨by decide, by decide⟩, by decide +kernel, by decide⟩
theorem cb_X7_init : m_cB MX7_init 1 := ⟨wd_49, wd_79, ⟨by decide, by decide⟩, by decide +kernel, by decide⟩
theorem cb_X7_begin : m_cB MX7_begin 2 := ⟨wd_49, wd_99, ⟨by decide, by decide⟩, by decide +kernel, by decide⟩
theorem cb_J7_fill_53178 : m_cB MJ7_fill_53178 2 := ⟨wd_50, wd_102, ⟨by decide, by decide⟩, by decide +kernel, by decide⟩
theorem cb_X3_init : m_cB MX3_init 0 := ⟨wd_51, wd_107, ⟨by decide, by decide⟩, by decide +kernel, by decide⟩
theorem cb_X6_init : m_cB MX6_init 0 := ⟨wd_52, wd_130, ⟨by decide, by decide⟩, by decide +kernel, by decide⟩
theorem cb_X2_init : m_cB MX2_init 0 := ⟨wd_53, wd_148, ⟨by decide, by decide⟩, by decide +kernel, by decide⟩
theorem cb_X8_init : m_cB MX8_init 0 := ⟨wd_54, wd_164, ⟨by decide, by decide⟩, by decide +kernel, by decide⟩
theorem cb_X11_row : m_cB MX11_row 3 := ⟨wd_48, wd_208, ⟨by decide, by decide⟩, by decide +kernel, by decide⟩
theorem cb_X11_noRow : m_cB MX11_noRow 1 := ⟨wd_48, wd_211, ⟨by decide, by decide⟩, by decide +kernel, by decide⟩
theorem cb_X11_found : m_cB MX11_found 1 := ⟨wd_48, wd_216, ⟨by decide, by decide⟩, by decide +kernel, by decide⟩
theorem cb_X11_fine : m_cB MX11_fine 1 := ⟨wd_48, wd_221, ⟨by decide, by decide⟩, by decide +kernel, by decide⟩
theorem cb_X11_set : m_cB MX11_set 3 := ⟨wd_48, wd_225, ⟨by decide, by decide⟩, by decide +kernel, by decide⟩
theorem cb_X7_missing : m_cB MX7_missing 0 := ⟨wd_49, wd_229, ⟨by decide, by decide⟩, by decide +kernel, by decide⟩
theorem cb_X7_holds : m_cB MX7_holds 2 := ⟨wd_49, wd_233, ⟨by decide, by decide⟩, by decide +kernel, by decide⟩
theorem cb_X7_put : m_cB MX7_put 2 := ⟨wd_49, wd_237, ⟨by decide, by decide⟩, by decide +kernel, by decide⟩
theorem cb_X11_copy : m_cB MX11_copy 5 := ⟨wd_48, wd_242, ⟨by decide, by decide⟩, by decide +kernel, by decide⟩
theorem cb_X7_take : m_cB MX7_take 4 := ⟨wd_49, wd_246, ⟨by decide, by decide⟩, by decide +kernel, by decide⟩
theorem cb_X11_drop : m_cB MX11_drop 1 := ⟨wd_48, wd_253, ⟨by decide, by decide⟩, by decide +kernel, by decide⟩
theorem cb_X7_end : m_cB MX7_end 0 := ⟨wd_49, wd_257, ⟨by decide, by decide⟩, by decide +kernel, by decide⟩
theorem cb_X11_cover : m_cB MX11_cover 5 := ⟨wd_48, wd_261, ⟨by decide, by decide⟩, by decide +kernel, by decide⟩
theorem cb_X11_noPlace : m_cB MX11_noPlace 1 := ⟨wd_48, wd_264, ⟨by decide, by decide⟩, by decide +kernel, by decide⟩
theorem cb_X5_still : m_cB MX5_still 1 := ⟨wd_57, wd_267, ⟨by decide, by decide⟩, by decide +kernel, by decide⟩
theorem cb_X5_with : m_cB MX5_with 3 := ⟨wd_57, wd_270, ⟨by decide, by decide⟩, by decide +kernel, by decide⟩
theorem cb_X7_orderFrom : m_cB MX7_orderFrom 2 := ⟨wd_49, wd_274, ⟨by decide, by decide⟩, by decide +kernel, by decide⟩
theorem cb_X7_item : m_cB MX7_item 1 := ⟨wd_49, wd_278, ⟨by decide, by decide⟩, by decide +kernel, by decide⟩
theorem cb_X5_behind : m_cB MX5_behind 3 := ⟨wd_57, wd_284, ⟨by decide, by decide⟩, by decide +kernel, by decide⟩
theorem cb_X5_at : m_cB MX5_at 2 := ⟨wd_57, wd_287, ⟨by decide, by decide⟩, by decide +kernel, by decide⟩
theorem cb_X5_inverse : m_cB MX5_inverse 2 := ⟨wd_57, wd_290, ⟨by decide, by decide⟩, by decide +kernel, by decide⟩
theorem cb_X1_of : m_cB MX1_of 2 := ⟨wd_58, wd_293, ⟨by decide, by decide⟩, by decide +kernel, by decide⟩
theorem cb_X5_ledTogether : m_cB MX5_ledTogether 2 := ⟨wd_57, wd_296, ⟨by decide, by decide⟩, by decide +kernel, by decide⟩
theorem cb_X5_mergedAlong : m_cB MX5_mergedAlong 4 := ⟨wd_57, wd_300, ⟨by decide, by decide⟩, by decide +kernel, by decide⟩
theorem cb_X5_merged : m_cB MX5_merged 4 := ⟨wd_57, wd_303, ⟨by decide, by decide⟩, by decide +kernel, by decide⟩
theorem cb_J9_min_7cf53 : m_cB MJ9_min_7cf53 2 := ⟨wd_59, wd_306, ⟨by decide, by decide⟩, by decide +kernel, by decide⟩
theorem cb_J9_max_7cf53 : m_cB MJ9_max_7cf53 2 := ⟨wd_59, wd_309, ⟨by decide, by decide⟩, by decide +kernel, by decide⟩
theorem cb_X5_groups : m_cB MX5_groups 2 := ⟨wd_57, wd_312, ⟨by decide, by decide⟩, by decide +kernel, by decide⟩
theorem cb_X5_leaders : m_cB MX5_leaders 2 := ⟨wd_57, wd_315, ⟨by decide, by decide⟩, by decide +kernel, by decide⟩
theorem cb_J6_bitCount_0f7a4 : m_cB MJ6_bitCount_0f7a4 1 := ⟨wd_60, wd_318, ⟨by decide, by decide⟩, by decide +kernel, by decide⟩
theorem cb_X1_exchangesAhead : m_cB MX1_exchangesAhead 2 := ⟨wd_58, wd_324, ⟨by decide, by decide⟩, by decide +kernel, by decide⟩
theorem cb_X8_one : m_cB MX8_one 1 := ⟨wd_54, wd_327, ⟨by decide, by decide⟩, by decide +kernel, by decide⟩
theorem cb_X8_lengthsOf : m_cB MX8_lengthsOf 2 := ⟨wd_54, wd_330, ⟨by decide, by decide⟩, by decide +kernel, by decide⟩
theorem cb_X9_init : m_cB MX9_init 3 := ⟨wd_61, wd_337, ⟨by decide, by decide⟩, by decide +kernel, by decide⟩
theorem cb_X1_init : m_cB MX1_init 3 := ⟨wd_58, wd_340, ⟨by decide, by decide⟩, by decide +kernel, by decide⟩
theorem cb_X10_init : m_cB MX10_init 3 := ⟨wd_62, wd_372, ⟨by decide, by decide⟩, by decide +kernel, by decide⟩
theorem cb_X0_init : m_cB MX0_init 3 := ⟨wd_63, wd_382, ⟨by decide, by decide⟩, by decide +kernel, by decide⟩
theorem cb_X4_init : m_cB MX4_init 3 := ⟨wd_64, wd_392, ⟨by decide, by decide⟩, by decide +kernel, by decide⟩
theorem cb_X11_shelve : m_cB MX11_shelve 2 := ⟨wd_48, wd_401, ⟨by decide, by decide⟩, by decide +kernel, by decide⟩
theorem cb_X0_kindNumber : m_cB MX0_kindNumber 0 := ⟨wd_63, wd_408, ⟨by decide, by decide⟩, by decide +kernel, by decide⟩
theorem cb_X4_kindNumber : m_cB MX4_kindNumber 0 := ⟨wd_64, wd_411, ⟨by decide, by decide⟩, by decide +kernel, by decide⟩
theorem cb_X9_kindNumber : m_cB MX9_kindNumber 0 := ⟨wd_61, wd_414, ⟨by decide, by decide⟩, by decide +kernel, by decide⟩
theorem cb_X10_kindNumber : m_cB MX10_kindNumber 0 := ⟨wd_62, wd_417, ⟨by decide, by decide⟩, by decide +kernel, by decide⟩
theorem cb_X1_kindNumber : m_cB MX1_kindNumber 0 := ⟨wd_58, wd_418, ⟨by decide, by decide⟩, by decide +kernel, by decide⟩
theorem cb_X11_part : m_cB MX11_part 3 := ⟨wd_48, wd_422, ⟨by decide, by decide⟩, by decide +kernel, by decide⟩
theorem cb_X1_partAlone : m_cB MX1_partAlone 1 := ⟨wd_58, wd_431, ⟨by decide, by decide⟩, by decide +kernel, by decide⟩
theorem cb_X1_narrowed : m_cB MX1_narrowed 2 := ⟨wd_58, wd_438, ⟨by decide, by decide⟩, by decide +kernel, by decide⟩
theorem cb_X11_name : m_cB MX11_name 2 := ⟨wd_48, wd_444, ⟨by decide, by decide⟩, by decide +kernel, by decide⟩
theorem cb_X1_whole : m_cB MX1_whole 0 := ⟨wd_58, wd_453, ⟨by decide, by decide⟩, by decide +kernel, by decide⟩
theorem cb_X3_find : m_cB MX3_find 2 := ⟨wd_51, wd_457, ⟨by decide, by decide⟩, by decide +kernel, by decide⟩
theorem cb_X3_numberFrom : m_cB MX3_numberFrom 3 := ⟨wd_51, wd_463, ⟨by decide, by decide⟩, by decide +kernel, by decide⟩
theorem cb_X3_againstLeast : m_cB MX3_againstLeast 2 := ⟨wd_51, wd_468, ⟨by decide, by decide⟩, by decide +kernel, by decide⟩
theorem cb_X3_renamed : m_cB MX3_renamed 2 := ⟨wd_51, wd_472, ⟨by decide, by decide⟩, by decide +kernel, by decide⟩
theorem cb_J13_compare_74951 : m_cB MJ13_compare_74951 2 := ⟨wd_65, wd_475, ⟨by decide, by decide⟩, by decide +kernel, by decide⟩
theorem cb_X3_keepAsLeast : m_cB MX3_keepAsLeast 2 := ⟨wd_51, wd_479, ⟨by decide, by decide⟩, by decide +kernel, by decide⟩
theorem cb_X5_withFirst : m_cB MX5_withFirst 2 := ⟨wd_57, wd_483, ⟨by decide, by decide⟩, by decide +kernel, by decide⟩
theorem cb_J7_copyOf_c38d5 : m_cB MJ7_copyOf_c38d5 2 := ⟨wd_50, wd_486, ⟨by decide, by decide⟩, by decide +kernel, by decide⟩
theorem cb_X11_between : m_cB MX11_between 4 := ⟨wd_48, wd_499, ⟨by decide, by decide⟩, by decide +kernel, by decide⟩
theorem cb_X1_noSheet : m_cB MX1_noSheet 1 := ⟨wd_58, wd_508, ⟨by decide, by decide⟩, by decide +kernel, by decide⟩
theorem cb_X1_ofBlocks : m_cB MX1_ofBlocks 2 := ⟨wd_58, wd_517, ⟨by decide, by decide⟩, by decide +kernel, by decide⟩
theorem cb_X1_blockLabels : m_cB MX1_blockLabels 2 := ⟨wd_58, wd_526, ⟨by decide, by decide⟩, by decide +kernel, by decide⟩
theorem cb_X11_braid : m_cB MX11_braid 4 := ⟨wd_48, wd_534, ⟨by decide, by decide⟩, by decide +kernel, by decide⟩
theorem cb_X1_ledPast : m_cB MX1_ledPast 2 := ⟨wd_58, wd_543, ⟨by decide, by decide⟩, by decide +kernel, by decide⟩
theorem cb_X5_leadForward : m_cB MX5_leadForward 3 := ⟨wd_57, wd_547, ⟨by decide, by decide⟩, by decide +kernel, by decide⟩
theorem cb_X5_leadBack : m_cB MX5_leadBack 3 := ⟨wd_57, wd_552, ⟨by decide, by decide⟩, by decide +kernel, by decide⟩
theorem cb_X11_turn : m_cB MX11_turn 3 := ⟨wd_48, wd_556, ⟨by decide, by decide⟩, by decide +kernel, by decide⟩
theorem cb_X1_mirror : m_cB MX1_mirror 0 := ⟨wd_58, wd_565, ⟨by decide, by decide⟩, by decide +kernel, by decide⟩
theorem cb_X11_over : m_cB MX11_over 3 := ⟨wd_48, wd_571, ⟨by decide, by decide⟩, by decide +kernel, by decide⟩
theorem cb_X1_laidOver : m_cB MX1_laidOver 1 := ⟨wd_58, wd_581, ⟨by decide, by decide⟩, by decide +kernel, by decide⟩
theorem cb_X1_turnAt : m_cB MX1_turnAt 1 := ⟨wd_58, wd_590, ⟨by decide, by decide⟩, by decide +kernel, by decide⟩
theorem cb_X1_noTurn : m_cB MX1_noTurn 1 := ⟨wd_58, wd_599, ⟨by decide, by decide⟩, by decide +kernel, by decide⟩
theorem cb_X11_clear : m_cB MX11_clear 1 := ⟨wd_48, wd_603, ⟨by decide, by decide⟩, by decide +kernel, by decide⟩
theorem cb_X11_told : m_cB MX11_told 2 := ⟨wd_48, wd_607, ⟨by decide, by decide⟩, by decide +kernel, by decide⟩
theorem cb_X11_tellOf : m_cB MX11_tellOf 2 := ⟨wd_48, wd_611, ⟨by decide, by decide⟩, by decide +kernel, by decide⟩
theorem cb_X1_holes : m_cB MX1_holes 0 := ⟨wd_58, wd_620, ⟨by decide, by decide⟩, by decide +kernel, by decide⟩
theorem cb_X1_rounds : m_cB MX1_rounds 1 := ⟨wd_58, wd_629, ⟨by decide, by decide⟩, by decide +kernel, by decide⟩
theorem cb_X8_total : m_cB MX8_total 1 := ⟨wd_54, wd_632, ⟨by decide, by decide⟩, by decide +kernel, by decide⟩
theorem cb_X8_times : m_cB MX8_times 2 := ⟨wd_54, wd_635, ⟨by decide, by decide⟩, by decide +kernel, by decide⟩
theorem cb_X2_orders : m_cB MX2_orders 1 := ⟨wd_53, wd_639, ⟨by decide, by decide⟩, by decide +kernel, by decide⟩
theorem cb_J7_fill_d0a16 : m_cB MJ7_fill_d0a16 2 := ⟨wd_50, wd_642, ⟨by decide, by decide⟩, by decide +kernel, by decide⟩
theorem cb_X2_sift : m_cB MX2_sift 2 := ⟨wd_53, wd_646, ⟨by decide, by decide⟩, by decide +kernel, by decide⟩
theorem cb_X2_product : m_cB MX2_product 1 := ⟨wd_53, wd_653, ⟨by decide, by decide⟩, by decide +kernel, by decide⟩
theorem cb_X11_leads : m_cB MX11_leads 3 := ⟨wd_48, wd_657, ⟨by decide, by decide⟩, by decide +kernel, by decide⟩
theorem cb_X11_shape : m_cB MX11_shape 3 := ⟨wd_48, wd_664, ⟨by decide, by decide⟩, by decide +kernel, by decide⟩
theorem cb_X8_lengthAt : m_cB MX8_lengthAt 2 := ⟨wd_54, wd_668, ⟨by decide, by decide⟩, by decide +kernel, by decide⟩
theorem cb_X11_block : m_cB MX11_block 4 := ⟨wd_48, wd_673, ⟨by decide, by decide⟩, by decide +kernel, by decide⟩
theorem cb_X11_same : m_cB MX11_same 2 := ⟨wd_48, wd_679, ⟨by decide, by decide⟩, by decide +kernel, by decide⟩
theorem cb_X11_alike : m_cB MX11_alike 2 := ⟨wd_48, wd_683, ⟨by decide, by decide⟩, by decide +kernel, by decide⟩
theorem cb_X11_ring : m_cB MX11_ring 1 := ⟨wd_48, wd_687, ⟨by decide, by decide⟩, by decide +kernel, by decide⟩
theorem cb_X6_walk : m_cB MX6_walk 1 := ⟨wd_52, wd_691, ⟨by decide, by decide⟩, by decide +kernel, by decide⟩
theorem cb_X6_keep : m_cB MX6_keep 1 := ⟨wd_52, wd_696, ⟨by decide, by decide⟩, by decide +kernel, by decide⟩
theorem cb_X6_known : m_cB MX6_known 1 := ⟨wd_52, wd_702, ⟨by decide, by decide⟩, by decide +kernel, by decide⟩
theorem cb_X6_isLeastAt : m_cB MX6_isLeastAt 2 := ⟨wd_52, wd_706, ⟨by decide, by decide⟩, by decide +kernel, by decide⟩
theorem cb_X11_lift : m_cB MX11_lift 5 := ⟨wd_48, wd_710, ⟨by decide, by decide⟩, by decide +kernel, by decide⟩
theorem cb_X1_noStep : m_cB MX1_noStep 1 := ⟨wd_58, wd_720, ⟨by decide, by decide⟩, by decide +kernel, by decide⟩
theorem cb_X1_stepped : m_cB MX1_stepped 2 := ⟨wd_58, wd_729, ⟨by decide, by decide⟩, by decide +kernel, by decide⟩
theorem cb_X11_kind : m_cB MX11_kind 1 := ⟨wd_48, wd_733, ⟨by decide, by decide⟩, by decide +kernel, by decide⟩
theorem cb_X11_is : m_cB MX11_is 2 := ⟨wd_48, wd_737, ⟨by decide, by decide⟩, by decide +kernel, by decide⟩
theorem cb_X11_ofKind : m_cB MX11_ofKind 2 := ⟨wd_48, wd_740, ⟨by decide, by decide⟩, by decide +kernel, by decide⟩
theorem cb_X11_as : m_cB MX11_as 2 := ⟨wd_48, wd_747, ⟨by decide, by decide⟩, by decide +kernel, by decide⟩
theorem cb_X11_ask : m_cB MX11_ask 2 := ⟨wd_48, wd_751, ⟨by decide, by decide⟩, by decide +kernel, by decide⟩
theorem cb_X0_sizeAsked : m_cB MX0_sizeAsked 1 := ⟨wd_63, wd_758, ⟨by decide, by decide⟩, by decide +kernel, by decide⟩
theorem cb_X7_add : m_cB MX7_add 1 := ⟨wd_49, wd_762, ⟨by decide, by decide⟩, by decide +kernel, by decide⟩
theorem cb_X10_sizeAsked : m_cB MX10_sizeAsked 1 := ⟨wd_62, wd_765, ⟨by decide, by decide⟩, by decide +kernel, by decide⟩
theorem cb_X4_sizeAsked : m_cB MX4_sizeAsked 1 := ⟨wd_64, wd_776, ⟨by decide, by decide⟩, by decide +kernel, by decide⟩
theorem cb_X4_markAsked : m_cB MX4_markAsked 1 := ⟨wd_64, wd_782, ⟨by decide, by decide⟩, by decide +kernel, by decide⟩
theorem cb_X10_markAsked : m_cB MX10_markAsked 1 := ⟨wd_62, wd_787, ⟨by decide, by decide⟩, by decide +kernel, by decide⟩
theorem cb_X1_markAsked : m_cB MX1_markAsked 1 := ⟨wd_58, wd_790, ⟨by decide, by decide⟩, by decide +kernel, by decide⟩
theorem cb_X9_sizeAsked : m_cB MX9_sizeAsked 1 := ⟨wd_61, wd_797, ⟨by decide, by decide⟩, by decide +kernel, by decide⟩
theorem cb_X1_sizeAsked : m_cB MX1_sizeAsked 1 := ⟨wd_58, wd_801, ⟨by decide, by decide⟩, by decide +kernel, by decide⟩
theorem cb_X11_trace : m_cB MX11_trace 1 := ⟨wd_48, wd_806, ⟨by decide, by decide⟩, by decide +kernel, by decide⟩
theorem cb_X11_joins : m_cB MX11_joins 3 := ⟨wd_48, wd_811, ⟨by decide, by decide⟩, by decide +kernel, by decide⟩
theorem cb_X8_prepare : m_cB MX8_prepare 1 := ⟨wd_54, wd_816, ⟨by decide, by decide⟩, by decide +kernel, by decide⟩
theorem cb_X8_listAll : m_cB MX8_listAll 1 := ⟨wd_54, wd_820, ⟨by decide, by decide⟩, by decide +kernel, by decide⟩
theorem cb_X8_nextBelow : m_cB MX8_nextBelow 2 := ⟨wd_54, wd_824, ⟨by decide, by decide⟩, by decide +kernel, by decide⟩
theorem cb_X8_cutAndJoined : m_cB MX8_cutAndJoined 3 := ⟨wd_54, wd_829, ⟨by decide, by decide⟩, by decide +kernel, by decide⟩
theorem cb_X8_cut : m_cB MX8_cut 3 := ⟨wd_54, wd_833, ⟨by decide, by decide⟩, by decide +kernel, by decide⟩
theorem cb_X8_indexOf : m_cB MX8_indexOf 1 := ⟨wd_54, wd_837, ⟨by decide, by decide⟩, by decide +kernel, by decide⟩
theorem cb_X8_rowsOf : m_cB MX8_rowsOf 2 := ⟨wd_54, wd_841, ⟨by decide, by decide⟩, by decide +kernel, by decide⟩
theorem cb_X8_lacks : m_cB MX8_lacks 1 := ⟨wd_54, wd_845, ⟨by decide, by decide⟩, by decide +kernel, by decide⟩
theorem cb_X11_shapes : m_cB MX11_shapes 3 := ⟨wd_48, wd_851, ⟨by decide, by decide⟩, by decide +kernel, by decide⟩
theorem cb_X8_lengthsAt : m_cB MX8_lengthsAt 1 := ⟨wd_54, wd_855, ⟨by decide, by decide⟩, by decide +kernel, by decide⟩
theorem cb_X11_count : m_cB MX11_count 1 := ⟨wd_48, wd_859, ⟨by decide, by decide⟩, by decide +kernel, by decide⟩
theorem cb_X11_rowsThere : m_cB MX11_rowsThere 0 := ⟨wd_48, wd_863, ⟨by decide, by decide⟩, by decide +kernel, by decide⟩
theorem cb_X11_coversThere : m_cB MX11_coversThere 1 := ⟨wd_48, wd_867, ⟨by decide, by decide⟩, by decide +kernel, by decide⟩
theorem cb_X11_status : m_cB MX11_status 0 := ⟨wd_48, wd_871, ⟨by decide, by decide⟩, by decide +kernel, by decide⟩
theorem cb_X12_init : m_cB MX12_init 0 := ⟨wd_55, wd_876, ⟨by decide, by decide⟩, by decide +kernel, by decide⟩
theorem cb_X12_row : m_cB MX12_row 3 := ⟨wd_55, wd_961, ⟨by decide, by decide⟩, by decide +kernel, by decide⟩
theorem cb_X12_isRow : m_cB MX12_isRow 1 := ⟨wd_55, wd_964, ⟨by decide, by decide⟩, by decide +kernel, by decide⟩
theorem cb_X12_in : m_cB MX12_in 3 := ⟨wd_55, wd_968, ⟨by decide, by decide⟩, by decide +kernel, by decide⟩
theorem cb_X12_found : m_cB MX12_found 1 := ⟨wd_55, wd_974, ⟨by decide, by decide⟩, by decide +kernel, by decide⟩
theorem cb_X12_set : m_cB MX12_set 3 := ⟨wd_55, wd_979, ⟨by decide, by decide⟩, by decide +kernel, by decide⟩
theorem cb_X12_copy : m_cB MX12_copy 5 := ⟨wd_55, wd_983, ⟨by decide, by decide⟩, by decide +kernel, by decide⟩
theorem cb_X12_drop : m_cB MX12_drop 1 := ⟨wd_55, wd_987, ⟨by decide, by decide⟩, by decide +kernel, by decide⟩
theorem cb_X12_cover : m_cB MX12_cover 5 := ⟨wd_55, wd_991, ⟨by decide, by decide⟩, by decide +kernel, by decide⟩
theorem cb_X12_isPlace : m_cB MX12_isPlace 1 := ⟨wd_55, wd_994, ⟨by decide, by decide⟩, by decide +kernel, by decide⟩
theorem cb_X12_put : m_cB MX12_put 4 := ⟨wd_55, wd_1001, ⟨by decide, by decide⟩, by decide +kernel, by decide⟩
theorem cb_X12_lay : m_cB MX12_lay 1 := ⟨wd_55, wd_1005, ⟨by decide, by decide⟩, by decide +kernel, by decide⟩
theorem cb_X12_become : m_cB MX12_become 2 := ⟨wd_55, wd_1009, ⟨by decide, by decide⟩, by decide +kernel, by decide⟩
theorem cb_X12_kindOf : m_cB MX12_kindOf 1 := ⟨wd_55, wd_1013, ⟨by decide, by decide⟩, by decide +kernel, by decide⟩
theorem cb_X12_at : m_cB MX12_at 3 := ⟨wd_55, wd_1017, ⟨by decide, by decide⟩, by decide +kernel, by decide⟩
theorem cb_X12_rounds : m_cB MX12_rounds 2 := ⟨wd_55, wd_1021, ⟨by decide, by decide⟩, by decide +kernel, by decide⟩
theorem cb_X12_part : m_cB MX12_part 3 := ⟨wd_55, wd_1025, ⟨by decide, by decide⟩, by decide +kernel, by decide⟩
theorem cb_X12_look : m_cB MX12_look 2 := ⟨wd_55, wd_1029, ⟨by decide, by decide⟩, by decide +kernel, by decide⟩
theorem cb_X12_parts : m_cB MX12_parts 1 := ⟨wd_55, wd_1033, ⟨by decide, by decide⟩, by decide +kernel, by decide⟩
theorem cb_X12_name : m_cB MX12_name 2 := ⟨wd_55, wd_1037, ⟨by decide, by decide⟩, by decide +kernel, by decide⟩
theorem cb_X12_least : m_cB MX12_least 2 := ⟨wd_55, wd_1041, ⟨by decide, by decide⟩, by decide +kernel, by decide⟩
theorem cb_X12_rename : m_cB MX12_rename 3 := ⟨wd_55, wd_1045, ⟨by decide, by decide⟩, by decide +kernel, by decide⟩
theorem cb_X12_compare : m_cB MX12_compare 2 := ⟨wd_55, wd_1049, ⟨by decide, by decide⟩, by decide +kernel, by decide⟩
theorem cb_X12_between : m_cB MX12_between 4 := ⟨wd_55, wd_1053, ⟨by decide, by decide⟩, by decide +kernel, by decide⟩
theorem cb_X12_isSheet : m_cB MX12_isSheet 2 := ⟨wd_55, wd_1057, ⟨by decide, by decide⟩, by decide +kernel, by decide⟩
theorem cb_X12_blocks : m_cB MX12_blocks 3 := ⟨wd_55, wd_1061, ⟨by decide, by decide⟩, by decide +kernel, by decide⟩
theorem cb_X12_merge : m_cB MX12_merge 3 := ⟨wd_55, wd_1065, ⟨by decide, by decide⟩, by decide +kernel, by decide⟩
theorem cb_X12_braid : m_cB MX12_braid 4 := ⟨wd_55, wd_1069, ⟨by decide, by decide⟩, by decide +kernel, by decide⟩
theorem cb_X12_braided : m_cB MX12_braided 4 := ⟨wd_55, wd_1073, ⟨by decide, by decide⟩, by decide +kernel, by decide⟩
theorem cb_X12_backAt : m_cB MX12_backAt 3 := ⟨wd_55, wd_1077, ⟨by decide, by decide⟩, by decide +kernel, by decide⟩
theorem cb_X12_turn : m_cB MX12_turn 3 := ⟨wd_55, wd_1081, ⟨by decide, by decide⟩, by decide +kernel, by decide⟩
theorem cb_X12_over : m_cB MX12_over 3 := ⟨wd_55, wd_1085, ⟨by decide, by decide⟩, by decide +kernel, by decide⟩
theorem cb_X12_clear : m_cB MX12_clear 1 := ⟨wd_55, wd_1090, ⟨by decide, by decide⟩, by decide +kernel, by decide⟩
theorem cb_X12_told : m_cB MX12_told 2 := ⟨wd_55, wd_1094, ⟨by decide, by decide⟩, by decide +kernel, by decide⟩
theorem cb_X12_heap : m_cB MX12_heap 1 := ⟨wd_55, wd_1099, ⟨by decide, by decide⟩, by decide +kernel, by decide⟩
theorem cb_X12_sift : m_cB MX12_sift 1 := ⟨wd_55, wd_1103, ⟨by decide, by decide⟩, by decide +kernel, by decide⟩
theorem cb_X12_leads : m_cB MX12_leads 3 := ⟨wd_55, wd_1107, ⟨by decide, by decide⟩, by decide +kernel, by decide⟩
theorem cb_X12_shape : m_cB MX12_shape 3 := ⟨wd_55, wd_1111, ⟨by decide, by decide⟩, by decide +kernel, by decide⟩
theorem cb_X12_block : m_cB MX12_block 4 := ⟨wd_55, wd_1116, ⟨by decide, by decide⟩, by decide +kernel, by decide⟩
theorem cb_X12_same : m_cB MX12_same 2 := ⟨wd_55, wd_1120, ⟨by decide, by decide⟩, by decide +kernel, by decide⟩
theorem cb_X12_ring : m_cB MX12_ring 1 := ⟨wd_55, wd_1124, ⟨by decide, by decide⟩, by decide +kernel, by decide⟩
theorem cb_X12_isName : m_cB MX12_isName 1 := ⟨wd_55, wd_1128, ⟨by decide, by decide⟩, by decide +kernel, by decide⟩
theorem cb_X12_lift : m_cB MX12_lift 5 := ⟨wd_55, wd_1132, ⟨by decide, by decide⟩, by decide +kernel, by decide⟩
theorem cb_X12_kind : m_cB MX12_kind 1 := ⟨wd_55, wd_1137, ⟨by decide, by decide⟩, by decide +kernel, by decide⟩
theorem cb_X12_is : m_cB MX12_is 2 := ⟨wd_55, wd_1141, ⟨by decide, by decide⟩, by decide +kernel, by decide⟩
theorem cb_X12_isOf : m_cB MX12_isOf 2 := ⟨wd_55, wd_1145, ⟨by decide, by decide⟩, by decide +kernel, by decide⟩
theorem cb_X12_as : m_cB MX12_as 2 := ⟨wd_55, wd_1149, ⟨by decide, by decide⟩, by decide +kernel, by decide⟩
theorem cb_X12_ask : m_cB MX12_ask 2 := ⟨wd_55, wd_1153, ⟨by decide, by decide⟩, by decide +kernel, by decide⟩
theorem cb_X12_sized : m_cB MX12_sized 1 := ⟨wd_55, wd_1157, ⟨by decide, by decide⟩, by decide +kernel, by decide⟩
theorem cb_X12_began : m_cB MX12_began 1 := ⟨wd_55, wd_1161, ⟨by decide, by decide⟩, by decide +kernel, by decide⟩
theorem cb_X12_marked : m_cB MX12_marked 1 := ⟨wd_55, wd_1165, ⟨by decide, by decide⟩, by decide +kernel, by decide⟩
theorem cb_X12_trace : m_cB MX12_trace 1 := ⟨wd_55, wd_1169, ⟨by decide, by decide⟩, by decide +kernel, by decide⟩
theorem cb_X12_joins : m_cB MX12_joins 3 := ⟨wd_55, wd_1173, ⟨by decide, by decide⟩, by decide +kernel, by decide⟩
theorem cb_X12_findShapes : m_cB MX12_findShapes 1 := ⟨wd_55, wd_1179, ⟨by decide, by decide⟩, by decide +kernel, by decide⟩
theorem cb_X12_changed : m_cB MX12_changed 5 := ⟨wd_55, wd_1183, ⟨by decide, by decide⟩, by decide +kernel, by decide⟩
theorem cb_X12_shapes : m_cB MX12_shapes 3 := ⟨wd_55, wd_1187, ⟨by decide, by decide⟩, by decide +kernel, by decide⟩
theorem cb_X12_count : m_cB MX12_count 1 := ⟨wd_55, wd_1191, ⟨by decide, by decide⟩, by decide +kernel, by decide⟩
theorem cb_X12_status : m_cB MX12_status 0 := ⟨wd_55, wd_1195, ⟨by decide, by decide⟩, by decide +kernel, by decide⟩
theorem fg_X7_7 : m_fl RX7 7 0 [6] := List.forall_mem_cons.mpr ⟨⟨_, "SphereSheets$Row", rfl, by decide, wd_81, Or.inl rfl⟩, fun _ h => absurd h List.not_mem_nil⟩
theorem fp_X7_7_6 : m_pl RX7 7 0 6 true := ⟨_, rfl, by decide, wd_81, rfl, fun _ => rfl⟩
theorem fg_X7_13 : m_fl RX7 13 1 [6] := List.forall_mem_cons.mpr ⟨⟨_, "SphereSheets$Row", rfl, by decide, wd_82, Or.inl rfl⟩, fun _ h => absurd h List.not_mem_nil⟩
theorem fp_X7_13_6 : m_pl RX7 13 1 6 false := ⟨_, rfl, by decide, wd_82, rfl, fun _ => rfl⟩
theorem fg_X11_84 : m_fl RX11 84 1 [6] := List.forall_mem_cons.mpr ⟨⟨_, "SphereSheets$Row", rfl, by decide, wd_83, Or.inl rfl⟩, fun _ h => absurd h List.not_mem_nil⟩
theorem fg_X7_17 : m_fl RX7 17 2 [6] := List.forall_mem_cons.mpr ⟨⟨_, "SphereSheets$Row", rfl, by decide, wd_84, Or.inl rfl⟩, fun _ h => absurd h List.not_mem_nil⟩
theorem fp_X7_17_6 : m_pl RX7 17 2 6 false := ⟨_, rfl, by decide, wd_84, rfl, fun _ => rfl⟩
theorem fg_X11_92 : m_fl RX11 92 2 [6] := List.forall_mem_cons.mpr ⟨⟨_, "SphereSheets$Row", rfl, by decide, wd_85, Or.inl rfl⟩, fun _ h => absurd h List.not_mem_nil⟩
theorem fg_X3_9 : m_fl RX3 9 0 [3] := List.forall_mem_cons.mpr ⟨⟨_, "SphereSheets$Namer", rfl, by decide, wd_109, Or.inl rfl⟩, fun _ h => absurd h List.not_mem_nil⟩
theorem fp_X3_9_3 : m_pl RX3 9 0 3 true := ⟨_, rfl, by decide, wd_109, rfl, fun _ => rfl⟩
theorem fg_X6_58 : m_fl RX6 58 0 [3] := List.forall_mem_cons.mpr ⟨⟨_, "SphereSheets$Namer", rfl, by decide, wd_110, Or.inl rfl⟩, fun _ h => absurd h List.not_mem_nil⟩
theorem fg_X11_150 : m_fl RX11 150 0 [3] := List.forall_mem_cons.mpr ⟨⟨_, "SphereSheets$Namer", rfl, by decide, wd_111, Or.inl rfl⟩, fun _ h => absurd h List.not_mem_nil⟩
theorem fg_X3_48 : m_fl RX3 48 1 [3] := List.forall_mem_cons.mpr ⟨⟨_, "SphereSheets$Namer", rfl, by decide, wd_112, Or.inl rfl⟩, fun _ h => absurd h List.not_mem_nil⟩
theorem fp_X3_48_3 : m_pl RX3 48 1 3 false := ⟨_, rfl, by decide, wd_112, rfl, fun _ => rfl⟩
theorem fg_X11_270 : m_fl RX11 270 1 [3] := List.forall_mem_cons.mpr ⟨⟨_, "SphereSheets$Namer", rfl, by decide, wd_113, Or.inl rfl⟩, fun _ h => absurd h List.not_mem_nil⟩
theorem fg_X3_52 : m_fl RX3 52 2 [3] := List.forall_mem_cons.mpr ⟨⟨_, "SphereSheets$Namer", rfl, by decide, wd_114, Or.inl rfl⟩, fun _ h => absurd h List.not_mem_nil⟩
theorem fp_X3_52_3 : m_pl RX3 52 2 3 false := ⟨_, rfl, by decide, wd_114, rfl, fun _ => rfl⟩
theorem fg_X3_37 : m_fl RX3 37 3 [3] := List.forall_mem_cons.mpr ⟨⟨_, "SphereSheets$Namer", rfl, by decide, wd_115, Or.inl rfl⟩, fun _ h => absurd h List.not_mem_nil⟩
theorem fp_X3_37_3 : m_pl RX3 37 3 3 false := ⟨_, rfl, by decide, wd_115, rfl, fun _ => rfl⟩
theorem fg_X6_12 : m_fl RX6 12 0 [5] := List.forall_mem_cons.mpr ⟨⟨_, "SphereSheets$Ring", rfl, by decide, wd_134, Or.inl rfl⟩, fun _ h => absurd h List.not_mem_nil⟩
theorem fp_X6_12_5 : m_pl RX6 12 0 5 true := ⟨_, rfl, by decide, wd_134, rfl, fun _ => rfl⟩
theorem fg_X6_18 : m_fl RX6 18 1 [5] := List.forall_mem_cons.mpr ⟨⟨_, "SphereSheets$Ring", rfl, by decide, wd_135, Or.inl rfl⟩, fun _ h => absurd h List.not_mem_nil⟩
theorem fp_X6_18_5 : m_pl RX6 18 1 5 true := ⟨_, rfl, by decide, wd_135, rfl, fun _ => rfl⟩
theorem fg_X6_27 : m_fl RX6 27 2 [5] := List.forall_mem_cons.mpr ⟨⟨_, "SphereSheets$Ring", rfl, by decide, wd_136, Or.inl rfl⟩, fun _ h => absurd h List.not_mem_nil⟩
theorem fp_X6_27_5 : m_pl RX6 27 2 5 false := ⟨_, rfl, by decide, wd_136, rfl, fun _ => rfl⟩
theorem fg_X2_11 : m_fl RX2 11 0 [2] := List.forall_mem_cons.mpr ⟨⟨_, "SphereSheets$Heap", rfl, by decide, wd_150, Or.inl rfl⟩, fun _ h => absurd h List.not_mem_nil⟩
theorem fp_X2_11_2 : m_pl RX2 11 0 2 true := ⟨_, rfl, by decide, wd_150, rfl, fun _ => rfl⟩
theorem fg_X2_15 : m_fl RX2 15 1 [2] := List.forall_mem_cons.mpr ⟨⟨_, "SphereSheets$Heap", rfl, by decide, wd_151, Or.inl rfl⟩, fun _ h => absurd h List.not_mem_nil⟩
theorem fp_X2_15_2 : m_pl RX2 15 1 2 true := ⟨_, rfl, by decide, wd_151, rfl, fun _ => rfl⟩
theorem fg_X2_24 : m_fl RX2 24 2 [2] := List.forall_mem_cons.mpr ⟨⟨_, "SphereSheets$Heap", rfl, by decide, wd_152, Or.inl rfl⟩, fun _ h => absurd h List.not_mem_nil⟩
theorem fp_X2_24_2 : m_pl RX2 24 2 2 false := ⟨_, rfl, by decide, wd_152, rfl, fun _ => rfl⟩
theorem fg_X8_11 : m_fl RX8 11 0 [7] := List.forall_mem_cons.mpr ⟨⟨_, "SphereSheets$Shapes", rfl, by decide, wd_166, Or.inl rfl⟩, fun _ h => absurd h List.not_mem_nil⟩
theorem fp_X8_11_7 : m_pl RX8 11 0 7 true := ⟨_, rfl, by decide, wd_166, rfl, fun _ => rfl⟩
theorem fg_X8_15 : m_fl RX8 15 1 [7] := List.forall_mem_cons.mpr ⟨⟨_, "SphereSheets$Shapes", rfl, by decide, wd_167, Or.inl rfl⟩, fun _ h => absurd h List.not_mem_nil⟩
theorem fp_X8_15_7 : m_pl RX8 15 1 7 true := ⟨_, rfl, by decide, wd_167, rfl, fun _ => rfl⟩
theorem fg_X8_40 : m_fl RX8 40 2 [7] := List.forall_mem_cons.mpr ⟨⟨_, "SphereSheets$Shapes", rfl, by decide, wd_168, Or.inl rfl⟩, fun _ h => absurd h List.not_mem_nil⟩
theorem fp_X8_40_7 : m_pl RX8 40 2 7 false := ⟨_, rfl, by decide, wd_168, rfl, fun _ => rfl⟩
theorem fg_X8_32 : m_fl RX8 32 3 [7] := List.forall_mem_cons.mpr ⟨⟨_, "SphereSheets$Shapes", rfl, by decide, wd_169, Or.inl rfl⟩, fun _ h => absurd h List.not_mem_nil⟩
theorem fp_X8_32_7 : m_pl RX8 32 3 7 false := ⟨_, rfl, by decide, wd_169, rfl, fun _ => rfl⟩
theorem fg_X11_251 : m_fl RX11 251 3 [7] := List.forall_mem_cons.mpr ⟨⟨_, "SphereSheets$Shapes", rfl, by decide, wd_170, Or.inl rfl⟩, fun _ h => absurd h List.not_mem_nil⟩
theorem fg_X11_11 : m_fl RX11 11 0 [10] := List.forall_mem_cons.mpr ⟨⟨_, "SphereSheets", rfl, by decide, wd_180, Or.inl rfl⟩, fun _ h => absurd h List.not_mem_nil⟩
theorem fp_X11_11_10 : m_pl RX11 11 0 10 true := ⟨_, rfl, by decide, wd_180, rfl, fun _ => rfl⟩
theorem fg_X11_20 : m_fl RX11 20 1 [10] := List.forall_mem_cons.mpr ⟨⟨_, "SphereSheets", rfl, by decide, wd_181, Or.inl rfl⟩, fun _ h => absurd h List.not_mem_nil⟩
theorem fp_X11_20_10 : m_pl RX11 20 1 10 true := ⟨_, rfl, by decide, wd_181, rfl, fun _ => rfl⟩
theorem fg_X11_24 : m_fl RX11 24 2 [10] := List.forall_mem_cons.mpr ⟨⟨_, "SphereSheets", rfl, by decide, wd_182, Or.inl rfl⟩, fun _ h => absurd h List.not_mem_nil⟩
theorem fp_X11_24_10 : m_pl RX11 24 2 10 true := ⟨_, rfl, by decide, wd_182, rfl, fun _ => rfl⟩
theorem fg_X11_35 : m_fl RX11 35 3 [10] := List.forall_mem_cons.mpr ⟨⟨_, "SphereSheets", rfl, by decide, wd_183, Or.inl rfl⟩, fun _ h => absurd h List.not_mem_nil⟩
theorem fp_X11_35_10 : m_pl RX11 35 3 10 true := ⟨_, rfl, by decide, wd_183, rfl, fun _ => rfl⟩
theorem fg_X11_42 : m_fl RX11 42 4 [10] := List.forall_mem_cons.mpr ⟨⟨_, "SphereSheets", rfl, by decide, wd_184, Or.inl rfl⟩, fun _ h => absurd h List.not_mem_nil⟩
theorem fp_X11_42_10 : m_pl RX11 42 4 10 true := ⟨_, rfl, by decide, wd_184, rfl, fun _ => rfl⟩
theorem fg_X11_49 : m_fl RX11 49 5 [10] := List.forall_mem_cons.mpr ⟨⟨_, "SphereSheets", rfl, by decide, wd_185, Or.inl rfl⟩, fun _ h => absurd h List.not_mem_nil⟩
theorem fp_X11_49_10 : m_pl RX11 49 5 10 true := ⟨_, rfl, by decide, wd_185, rfl, fun _ => rfl⟩
theorem fg_X11_56 : m_fl RX11 56 6 [10] := List.forall_mem_cons.mpr ⟨⟨_, "SphereSheets", rfl, by decide, wd_186, Or.inl rfl⟩, fun _ h => absurd h List.not_mem_nil⟩
theorem fp_X11_56_10 : m_pl RX11 56 6 10 true := ⟨_, rfl, by decide, wd_186, rfl, fun _ => rfl⟩
theorem fg_X11_263 : m_fl RX11 263 7 [10] := List.forall_mem_cons.mpr ⟨⟨_, "SphereSheets", rfl, by decide, wd_187, Or.inl rfl⟩, fun _ h => absurd h List.not_mem_nil⟩
theorem fp_X11_263_10 : m_pl RX11 263 7 10 false := ⟨_, rfl, by decide, wd_187, rfl, fun _ => rfl⟩
theorem fg_X1_7 : m_fl RX1 7 0 [0, 1, 4, 8, 9] := List.forall_mem_cons.mpr ⟨⟨_, "SphereSheets$Cover", rfl, by decide, wd_342, Or.inl rfl⟩, List.forall_mem_cons.mpr ⟨⟨_, "SphereSheets$Cover", rfl, by decide, wd_342, Or.inl rfl⟩, List.forall_mem_cons.mpr ⟨⟨_, "SphereSheets$Cover", rfl, by decide, wd_342, Or.inl rfl⟩, List.forall_mem_cons.mpr ⟨⟨_, "SphereSheets$Cover", rfl, by decide, wd_342, Or.inl rfl⟩, List.forall_mem_cons.mpr ⟨⟨_, "SphereSheets$Cover", rfl, by decide, wd_342, Or.inl rfl⟩, fun _ h => absurd h List.not_mem_nil⟩⟩⟩⟩⟩
theorem fp_X1_7_0 : m_pl RX1 7 0 0 true := ⟨_, rfl, by decide, wd_342, rfl, fun _ => rfl⟩
theorem fp_X1_7_1 : m_pl RX1 7 0 1 true := ⟨_, rfl, by decide, wd_342, rfl, fun _ => rfl⟩
theorem fp_X1_7_4 : m_pl RX1 7 0 4 true := ⟨_, rfl, by decide, wd_342, rfl, fun _ => rfl⟩
theorem fp_X1_7_8 : m_pl RX1 7 0 8 true := ⟨_, rfl, by decide, wd_342, rfl, fun _ => rfl⟩
theorem fp_X1_7_9 : m_pl RX1 7 0 9 true := ⟨_, rfl, by decide, wd_342, rfl, fun _ => rfl⟩
theorem fg_X2_18 : m_fl RX2 18 0 [0, 1, 4, 8, 9] := List.forall_mem_cons.mpr ⟨⟨_, "SphereSheets$Cover", rfl, by decide, wd_343, Or.inl rfl⟩, List.forall_mem_cons.mpr ⟨⟨_, "SphereSheets$Cover", rfl, by decide, wd_343, Or.inl rfl⟩, List.forall_mem_cons.mpr ⟨⟨_, "SphereSheets$Cover", rfl, by decide, wd_343, Or.inl rfl⟩, List.forall_mem_cons.mpr ⟨⟨_, "SphereSheets$Cover", rfl, by decide, wd_343, Or.inl rfl⟩, List.forall_mem_cons.mpr ⟨⟨_, "SphereSheets$Cover", rfl, by decide, wd_343, Or.inl rfl⟩, fun _ h => absurd h List.not_mem_nil⟩⟩⟩⟩⟩
theorem fg_X6_31 : m_fl RX6 31 0 [0, 1, 4, 8, 9] := List.forall_mem_cons.mpr ⟨⟨_, "SphereSheets$Cover", rfl, by decide, wd_344, Or.inl rfl⟩, List.forall_mem_cons.mpr ⟨⟨_, "SphereSheets$Cover", rfl, by decide, wd_344, Or.inl rfl⟩, List.forall_mem_cons.mpr ⟨⟨_, "SphereSheets$Cover", rfl, by decide, wd_344, Or.inl rfl⟩, List.forall_mem_cons.mpr ⟨⟨_, "SphereSheets$Cover", rfl, by decide, wd_344, Or.inl rfl⟩, List.forall_mem_cons.mpr ⟨⟨_, "SphereSheets$Cover", rfl, by decide, wd_344, Or.inl rfl⟩, fun _ h => absurd h List.not_mem_nil⟩⟩⟩⟩⟩
theorem fg_X11_143 : m_fl RX11 143 0 [0, 1, 4, 8, 9] := List.forall_mem_cons.mpr ⟨⟨_, "SphereSheets$Cover", rfl, by decide, wd_345, Or.inl rfl⟩, List.forall_mem_cons.mpr ⟨⟨_, "SphereSheets$Cover", rfl, by decide, wd_345, Or.inl rfl⟩, List.forall_mem_cons.mpr ⟨⟨_, "SphereSheets$Cover", rfl, by decide, wd_345, Or.inl rfl⟩, List.forall_mem_cons.mpr ⟨⟨_, "SphereSheets$Cover", rfl, by decide, wd_345, Or.inl rfl⟩, List.forall_mem_cons.mpr ⟨⟨_, "SphereSheets$Cover", rfl, by decide, wd_345, Or.inl rfl⟩, fun _ h => absurd h List.not_mem_nil⟩⟩⟩⟩⟩
theorem fg_X1_13 : m_fl RX1 13 1 [0, 1, 4, 8, 9] := List.forall_mem_cons.mpr ⟨⟨_, "SphereSheets$Cover", rfl, by decide, wd_346, Or.inl rfl⟩, List.forall_mem_cons.mpr ⟨⟨_, "SphereSheets$Cover", rfl, by decide, wd_346, Or.inl rfl⟩, List.forall_mem_cons.mpr ⟨⟨_, "SphereSheets$Cover", rfl, by decide, wd_346, Or.inl rfl⟩, List.forall_mem_cons.mpr ⟨⟨_, "SphereSheets$Cover", rfl, by decide, wd_346, Or.inl rfl⟩, List.forall_mem_cons.mpr ⟨⟨_, "SphereSheets$Cover", rfl, by decide, wd_346, Or.inl rfl⟩, fun _ h => absurd h List.not_mem_nil⟩⟩⟩⟩⟩
theorem fp_X1_13_0 : m_pl RX1 13 1 0 true := ⟨_, rfl, by decide, wd_346, rfl, fun _ => rfl⟩
theorem fp_X1_13_1 : m_pl RX1 13 1 1 true := ⟨_, rfl, by decide, wd_346, rfl, fun _ => rfl⟩
theorem fp_X1_13_4 : m_pl RX1 13 1 4 true := ⟨_, rfl, by decide, wd_346, rfl, fun _ => rfl⟩
theorem fp_X1_13_8 : m_pl RX1 13 1 8 true := ⟨_, rfl, by decide, wd_346, rfl, fun _ => rfl⟩
theorem fp_X1_13_9 : m_pl RX1 13 1 9 true := ⟨_, rfl, by decide, wd_346, rfl, fun _ => rfl⟩
theorem fg_X6_22 : m_fl RX6 22 1 [0, 1, 4, 8, 9] := List.forall_mem_cons.mpr ⟨⟨_, "SphereSheets$Cover", rfl, by decide, wd_347, Or.inl rfl⟩, List.forall_mem_cons.mpr ⟨⟨_, "SphereSheets$Cover", rfl, by decide, wd_347, Or.inl rfl⟩, List.forall_mem_cons.mpr ⟨⟨_, "SphereSheets$Cover", rfl, by decide, wd_347, Or.inl rfl⟩, List.forall_mem_cons.mpr ⟨⟨_, "SphereSheets$Cover", rfl, by decide, wd_347, Or.inl rfl⟩, List.forall_mem_cons.mpr ⟨⟨_, "SphereSheets$Cover", rfl, by decide, wd_347, Or.inl rfl⟩, fun _ h => absurd h List.not_mem_nil⟩⟩⟩⟩⟩
theorem fg_X2_33 : m_fl RX2 33 1 [0, 1, 4, 8, 9] := List.forall_mem_cons.mpr ⟨⟨_, "SphereSheets$Cover", rfl, by decide, wd_348, Or.inl rfl⟩, List.forall_mem_cons.mpr ⟨⟨_, "SphereSheets$Cover", rfl, by decide, wd_348, Or.inl rfl⟩, List.forall_mem_cons.mpr ⟨⟨_, "SphereSheets$Cover", rfl, by decide, wd_348, Or.inl rfl⟩, List.forall_mem_cons.mpr ⟨⟨_, "SphereSheets$Cover", rfl, by decide, wd_348, Or.inl rfl⟩, List.forall_mem_cons.mpr ⟨⟨_, "SphereSheets$Cover", rfl, by decide, wd_348, Or.inl rfl⟩, fun _ h => absurd h List.not_mem_nil⟩⟩⟩⟩⟩
theorem fg_X9_17 : m_fl RX9 17 1 [8] := List.forall_mem_cons.mpr ⟨⟨_, "SphereSheets$Simple", rfl, by decide, wd_349, Or.inr wd_350⟩, fun _ h => absurd h List.not_mem_nil⟩
theorem fg_X11_139 : m_fl RX11 139 1 [0, 1, 4, 8, 9] := List.forall_mem_cons.mpr ⟨⟨_, "SphereSheets$Cover", rfl, by decide, wd_351, Or.inl rfl⟩, List.forall_mem_cons.mpr ⟨⟨_, "SphereSheets$Cover", rfl, by decide, wd_351, Or.inl rfl⟩, List.forall_mem_cons.mpr ⟨⟨_, "SphereSheets$Cover", rfl, by decide, wd_351, Or.inl rfl⟩, List.forall_mem_cons.mpr ⟨⟨_, "SphereSheets$Cover", rfl, by decide, wd_351, Or.inl rfl⟩, List.forall_mem_cons.mpr ⟨⟨_, "SphereSheets$Cover", rfl, by decide, wd_351, Or.inl rfl⟩, fun _ h => absurd h List.not_mem_nil⟩⟩⟩⟩⟩
theorem fg_X1_17 : m_fl RX1 17 2 [0, 1, 4, 8, 9] := List.forall_mem_cons.mpr ⟨⟨_, "SphereSheets$Cover", rfl, by decide, wd_352, Or.inl rfl⟩, List.forall_mem_cons.mpr ⟨⟨_, "SphereSheets$Cover", rfl, by decide, wd_352, Or.inl rfl⟩, List.forall_mem_cons.mpr ⟨⟨_, "SphereSheets$Cover", rfl, by decide, wd_352, Or.inl rfl⟩, List.forall_mem_cons.mpr ⟨⟨_, "SphereSheets$Cover", rfl, by decide, wd_352, Or.inl rfl⟩, List.forall_mem_cons.mpr ⟨⟨_, "SphereSheets$Cover", rfl, by decide, wd_352, Or.inl rfl⟩, fun _ h => absurd h List.not_mem_nil⟩⟩⟩⟩⟩
theorem fp_X1_17_0 : m_pl RX1 17 2 0 true := ⟨_, rfl, by decide, wd_352, rfl, fun _ => rfl⟩
theorem fp_X1_17_1 : m_pl RX1 17 2 1 true := ⟨_, rfl, by decide, wd_352, rfl, fun _ => rfl⟩
theorem fp_X1_17_4 : m_pl RX1 17 2 4 true := ⟨_, rfl, by decide, wd_352, rfl, fun _ => rfl⟩
theorem fp_X1_17_8 : m_pl RX1 17 2 8 true := ⟨_, rfl, by decide, wd_352, rfl, fun _ => rfl⟩
theorem fp_X1_17_9 : m_pl RX1 17 2 9 true := ⟨_, rfl, by decide, wd_352, rfl, fun _ => rfl⟩
theorem fg_X11_129 : m_fl RX11 129 2 [0, 1, 4, 8, 9] := List.forall_mem_cons.mpr ⟨⟨_, "SphereSheets$Cover", rfl, by decide, wd_353, Or.inl rfl⟩, List.forall_mem_cons.mpr ⟨⟨_, "SphereSheets$Cover", rfl, by decide, wd_353, Or.inl rfl⟩, List.forall_mem_cons.mpr ⟨⟨_, "SphereSheets$Cover", rfl, by decide, wd_353, Or.inl rfl⟩, List.forall_mem_cons.mpr ⟨⟨_, "SphereSheets$Cover", rfl, by decide, wd_353, Or.inl rfl⟩, List.forall_mem_cons.mpr ⟨⟨_, "SphereSheets$Cover", rfl, by decide, wd_353, Or.inl rfl⟩, fun _ h => absurd h List.not_mem_nil⟩⟩⟩⟩⟩
theorem fg_X12_78 : m_fl RX12 78 0 [11] := List.forall_mem_cons.mpr ⟨⟨_, "SphereSheetsModel", rfl, by decide, wd_878, Or.inl rfl⟩, fun _ h => absurd h List.not_mem_nil⟩
theorem fp_X12_78_11 : m_pl RX12 78 0 11 false := ⟨_, rfl, by decide, wd_878, rfl, fun _ => rfl⟩
theorem fg_X12_82 : m_fl RX12 82 1 [11] := List.forall_mem_cons.mpr ⟨⟨_, "SphereSheetsModel", rfl, by decide, wd_879, Or.inl rfl⟩, fun _ h => absurd h List.not_mem_nil⟩
theorem fp_X12_82_11 : m_pl RX12 82 1 11 false := ⟨_, rfl, by decide, wd_879, rfl, fun _ => rfl⟩
theorem fg_X12_7 : m_fl RX12 7 2 [11] := List.forall_mem_cons.mpr ⟨⟨_, "SphereSheetsModel", rfl, by decide, wd_880, Or.inl rfl⟩, fun _ h => absurd h List.not_mem_nil⟩
theorem fp_X12_7_11 : m_pl RX12 7 2 11 true := ⟨_, rfl, by decide, wd_880, rfl, fun _ => rfl⟩
theorem fg_X12_13 : m_fl RX12 13 3 [11] := List.forall_mem_cons.mpr ⟨⟨_, "SphereSheetsModel", rfl, by decide, wd_881, Or.inl rfl⟩, fun _ h => absurd h List.not_mem_nil⟩
theorem fp_X12_13_11 : m_pl RX12 13 3 11 true := ⟨_, rfl, by decide, wd_881, rfl, fun _ => rfl⟩
theorem fg_X12_16 : m_fl RX12 16 4 [11] := List.forall_mem_cons.mpr ⟨⟨_, "SphereSheetsModel", rfl, by decide, wd_882, Or.inl rfl⟩, fun _ h => absurd h List.not_mem_nil⟩
theorem fp_X12_16_11 : m_pl RX12 16 4 11 true := ⟨_, rfl, by decide, wd_882, rfl, fun _ => rfl⟩
theorem fg_X12_19 : m_fl RX12 19 5 [11] := List.forall_mem_cons.mpr ⟨⟨_, "SphereSheetsModel", rfl, by decide, wd_883, Or.inl rfl⟩, fun _ h => absurd h List.not_mem_nil⟩
theorem fp_X12_19_11 : m_pl RX12 19 5 11 true := ⟨_, rfl, by decide, wd_883, rfl, fun _ => rfl⟩
theorem fg_X12_22 : m_fl RX12 22 6 [11] := List.forall_mem_cons.mpr ⟨⟨_, "SphereSheetsModel", rfl, by decide, wd_884, Or.inl rfl⟩, fun _ h => absurd h List.not_mem_nil⟩
theorem fp_X12_22_11 : m_pl RX12 22 6 11 true := ⟨_, rfl, by decide, wd_884, rfl, fun _ => rfl⟩
theorem fg_X12_25 : m_fl RX12 25 7 [11] := List.forall_mem_cons.mpr ⟨⟨_, "SphereSheetsModel", rfl, by decide, wd_885, Or.inl rfl⟩, fun _ h => absurd h List.not_mem_nil⟩
theorem fp_X12_25_11 : m_pl RX12 25 7 11 true := ⟨_, rfl, by decide, wd_885, rfl, fun _ => rfl⟩
theorem fg_X12_28 : m_fl RX12 28 8 [11] := List.forall_mem_cons.mpr ⟨⟨_, "SphereSheetsModel", rfl, by decide, wd_886, Or.inl rfl⟩, fun _ h => absurd h List.not_mem_nil⟩
theorem fp_X12_28_11 : m_pl RX12 28 8 11 true := ⟨_, rfl, by decide, wd_886, rfl, fun _ => rfl⟩
theorem fg_X12_32 : m_fl RX12 32 9 [11] := List.forall_mem_cons.mpr ⟨⟨_, "SphereSheetsModel", rfl, by decide, wd_887, Or.inl rfl⟩, fun _ h => absurd h List.not_mem_nil⟩
theorem fp_X12_32_11 : m_pl RX12 32 9 11 true := ⟨_, rfl, by decide, wd_887, rfl, fun _ => rfl⟩
theorem fg_X12_35 : m_fl RX12 35 10 [11] := List.forall_mem_cons.mpr ⟨⟨_, "SphereSheetsModel", rfl, by decide, wd_888, Or.inl rfl⟩, fun _ h => absurd h List.not_mem_nil⟩
theorem fp_X12_35_11 : m_pl RX12 35 10 11 true := ⟨_, rfl, by decide, wd_888, rfl, fun _ => rfl⟩
theorem fg_X12_38 : m_fl RX12 38 11 [11] := List.forall_mem_cons.mpr ⟨⟨_, "SphereSheetsModel", rfl, by decide, wd_889, Or.inl rfl⟩, fun _ h => absurd h List.not_mem_nil⟩
theorem fp_X12_38_11 : m_pl RX12 38 11 11 true := ⟨_, rfl, by decide, wd_889, rfl, fun _ => rfl⟩
theorem fg_X12_41 : m_fl RX12 41 12 [11] := List.forall_mem_cons.mpr ⟨⟨_, "SphereSheetsModel", rfl, by decide, wd_890, Or.inl rfl⟩, fun _ h => absurd h List.not_mem_nil⟩
theorem fp_X12_41_11 : m_pl RX12 41 12 11 true := ⟨_, rfl, by decide, wd_890, rfl, fun _ => rfl⟩
theorem fg_X12_44 : m_fl RX12 44 13 [11] := List.forall_mem_cons.mpr ⟨⟨_, "SphereSheetsModel", rfl, by decide, wd_891, Or.inl rfl⟩, fun _ h => absurd h List.not_mem_nil⟩
theorem fp_X12_44_11 : m_pl RX12 44 13 11 true := ⟨_, rfl, by decide, wd_891, rfl, fun _ => rfl⟩
theorem fg_X12_47 : m_fl RX12 47 14 [11] := List.forall_mem_cons.mpr ⟨⟨_, "SphereSheetsModel", rfl, by decide, wd_892, Or.inl rfl⟩, fun _ h => absurd h List.not_mem_nil⟩
theorem fp_X12_47_11 : m_pl RX12 47 14 11 true := ⟨_, rfl, by decide, wd_892, rfl, fun _ => rfl⟩
theorem fg_X12_50 : m_fl RX12 50 15 [11] := List.forall_mem_cons.mpr ⟨⟨_, "SphereSheetsModel", rfl, by decide, wd_893, Or.inl rfl⟩, fun _ h => absurd h List.not_mem_nil⟩
theorem fp_X12_50_11 : m_pl RX12 50 15 11 true := ⟨_, rfl, by decide, wd_893, rfl, fun _ => rfl⟩
theorem fg_X12_53 : m_fl RX12 53 16 [11] := List.forall_mem_cons.mpr ⟨⟨_, "SphereSheetsModel", rfl, by decide, wd_894, Or.inl rfl⟩, fun _ h => absurd h List.not_mem_nil⟩
theorem fp_X12_53_11 : m_pl RX12 53 16 11 true := ⟨_, rfl, by decide, wd_894, rfl, fun _ => rfl⟩
theorem fg_X12_56 : m_fl RX12 56 17 [11] := List.forall_mem_cons.mpr ⟨⟨_, "SphereSheetsModel", rfl, by decide, wd_895, Or.inl rfl⟩, fun _ h => absurd h List.not_mem_nil⟩
theorem fp_X12_56_11 : m_pl RX12 56 17 11 true := ⟨_, rfl, by decide, wd_895, rfl, fun _ => rfl⟩
theorem fg_X12_59 : m_fl RX12 59 18 [11] := List.forall_mem_cons.mpr ⟨⟨_, "SphereSheetsModel", rfl, by decide, wd_896, Or.inl rfl⟩, fun _ h => absurd h List.not_mem_nil⟩
theorem fp_X12_59_11 : m_pl RX12 59 18 11 true := ⟨_, rfl, by decide, wd_896, rfl, fun _ => rfl⟩
theorem fg_X12_62 : m_fl RX12 62 19 [11] := List.forall_mem_cons.mpr ⟨⟨_, "SphereSheetsModel", rfl, by decide, wd_897, Or.inl rfl⟩, fun _ h => absurd h List.not_mem_nil⟩
theorem fp_X12_62_11 : m_pl RX12 62 19 11 true := ⟨_, rfl, by decide, wd_897, rfl, fun _ => rfl⟩
theorem fg_X12_187 : m_fl RX12 187 20 [11] := List.forall_mem_cons.mpr ⟨⟨_, "SphereSheetsModel", rfl, by decide, wd_898, Or.inl rfl⟩, fun _ h => absurd h List.not_mem_nil⟩
theorem fp_X12_187_11 : m_pl RX12 187 20 11 false := ⟨_, rfl, by decide, wd_898, rfl, fun _ => rfl⟩
theorem fg_X12_200 : m_fl RX12 200 21 [11] := List.forall_mem_cons.mpr ⟨⟨_, "SphereSheetsModel", rfl, by decide, wd_899, Or.inl rfl⟩, fun _ h => absurd h List.not_mem_nil⟩
theorem fp_X12_200_11 : m_pl RX12 200 21 11 false := ⟨_, rfl, by decide, wd_899, rfl, fun _ => rfl⟩
theorem fg_X12_65 : m_fl RX12 65 22 [11] := List.forall_mem_cons.mpr ⟨⟨_, "SphereSheetsModel", rfl, by decide, wd_900, Or.inl rfl⟩, fun _ h => absurd h List.not_mem_nil⟩
theorem fp_X12_65_11 : m_pl RX12 65 22 11 true := ⟨_, rfl, by decide, wd_900, rfl, fun _ => rfl⟩
theorem fg_X12_68 : m_fl RX12 68 23 [11] := List.forall_mem_cons.mpr ⟨⟨_, "SphereSheetsModel", rfl, by decide, wd_901, Or.inl rfl⟩, fun _ h => absurd h List.not_mem_nil⟩
theorem fp_X12_68_11 : m_pl RX12 68 23 11 true := ⟨_, rfl, by decide, wd_901, rfl, fun _ => rfl⟩
theorem fg_X12_71 : m_fl RX12 71 24 [11] := List.forall_mem_cons.mpr ⟨⟨_, "SphereSheetsModel", rfl, by decide, wd_902, Or.inl rfl⟩, fun _ h => absurd h List.not_mem_nil⟩
theorem fp_X12_71_11 : m_pl RX12 71 24 11 true := ⟨_, rfl, by decide, wd_902, rfl, fun _ => rfl⟩
theorem fg_X12_75 : m_fl RX12 75 25 [11] := List.forall_mem_cons.mpr ⟨⟨_, "SphereSheetsModel", rfl, by decide, wd_903, Or.inl rfl⟩, fun _ h => absurd h List.not_mem_nil⟩
theorem fp_X12_75_11 : m_pl RX12 75 25 11 true := ⟨_, rfl, by decide, wd_903, rfl, fun _ => rfl⟩
theorem kc_X11_64 : Cond.constant RX11 64 (-1000001) ∈ mGood := wd_212
theorem kc_X11_266 : Cond.constant RX11 266 (-1000010) ∈ mGood := wd_217
theorem kc_X7_42 : Cond.constantLong RX7 42 (-1) ∈ mGood := wd_279
theorem kc_X11_111 : Cond.constantLong RX11 111 (-1) ∈ mGood := wd_281
theorem kc_J6_265 : Cond.constant RJ6 265 (1431655765) ∈ mGood := wd_319
theorem kc_J6_266 : Cond.constant RJ6 266 (858993459) ∈ mGood := wd_320
theorem kc_J6_267 : Cond.constant RJ6 267 (252645135) ∈ mGood := wd_321
theorem kc_X11_176 : Cond.constant RX11 176 (-1000003) ∈ mGood := wd_572
theorem kc_X8_31 : Cond.constant RX8 31 (-1000000) ∈ mGood := wd_669
theorem kc_X11_239 : Cond.constant RX11 239 (-1000000) ∈ mGood := wd_807
theorem kc_X11_240 : Cond.constantLong RX11 240 (-1000001) ∈ mGood := wd_812
theorem kc_X12_86 : Cond.constantLong RX12 86 (7) ∈ mGood := wd_965
theorem kc_X12_96 : Cond.constantLong RX12 96 (2) ∈ mGood := wd_969
theorem kc_X12_98 : Cond.constant RX12 98 (-1000001) ∈ mGood := wd_970
theorem kc_X12_85 : Cond.constant RX12 85 (-1000010) ∈ mGood := wd_975
theorem kc_X12_103 : Cond.constantLong RX12 103 (9) ∈ mGood := wd_995
theorem kc_X12_123 : Cond.constantLong RX12 123 (12) ∈ mGood := wd_996
theorem kc_X12_125 : Cond.constantLong RX12 125 (8) ∈ mGood := wd_997
theorem kc_X12_167 : Cond.constant RX12 167 (-1000003) ∈ mGood := wd_1086
theorem kc_X12_171 : Cond.constantLong RX12 171 (5) ∈ mGood := wd_1095
theorem kc_X12_176 : Cond.constant RX12 176 (-1000000) ∈ mGood := wd_1112
theorem kc_X12_180 : Cond.constantLong RX12 180 (96) ∈ mGood := wd_1133
theorem kc_X12_182 : Cond.constantLong RX12 182 (4) ∈ mGood := wd_1142
theorem kc_X12_203 : Cond.constantLong RX12 203 (10) ∈ mGood := wd_1174
theorem kc_X12_205 : Cond.constantLong RX12 205 (-1000001) ∈ mGood := wd_1175
theorem cl_L_7 : Cond.classLink RL 7 "SphereSheets" ∈ mGood := wd_66
theorem cl_X11_9 : Cond.classLink RX11 9 "SphereSheets$Row" ∈ mGood := wd_74
theorem cl_X11_18 : Cond.classLink RX11 18 "SphereSheets$Cover" ∈ mGood := wd_94
theorem cl_X11_32 : Cond.classLink RX11 32 "SphereSheets$Namer" ∈ mGood := wd_103
theorem cl_X11_39 : Cond.classLink RX11 39 "SphereSheets$Ring" ∈ mGood := wd_126
theorem cl_X6_9 : Cond.classLink RX6 9 "SphereSheets$Namer" ∈ mGood := wd_132
theorem cl_X11_46 : Cond.classLink RX11 46 "SphereSheets$Heap" ∈ mGood := wd_144
theorem cl_X11_53 : Cond.classLink RX11 53 "SphereSheets$Shapes" ∈ mGood := wd_160
theorem cl_X1_34 : Cond.classLink RX1 34 "SphereSheets$Simple" ∈ mGood := wd_333
theorem cl_X1_8 : Cond.classLink RX1 8 "SphereSheets$Cover" ∈ mGood := wd_361
theorem cl_X1_50 : Cond.classLink RX1 50 "SphereSheets$Three" ∈ mGood := wd_368
theorem cl_X1_53 : Cond.classLink RX1 53 "SphereSheets$Bristled" ∈ mGood := wd_378
theorem cl_X1_56 : Cond.classLink RX1 56 "SphereSheets$One" ∈ mGood := wd_388
theorem cl_J7_320 : Cond.classLink RJ7 320 "[J" ∈ mGood := wd_493
theorem cl_X11_174 : Cond.classLink RX11 174 "SphereSheets$Three" ∈ mGood := wd_567
theorem cl_X11_276 : Cond.classLink RX11 276 "SphereSheets$Simple" ∈ mGood := wd_741
theorem cl_X11_278 : Cond.classLink RX11 278 "SphereSheets$Bristled" ∈ mGood := wd_742
theorem cl_X11_280 : Cond.classLink RX11 280 "SphereSheets$One" ∈ mGood := wd_743
theorem cl_L_10 : Cond.classLink RL 10 "SphereSheetsModel" ∈ mGood := wd_872
theorem nw_L_7 : m_nw RL 7 10 [.null, .null, .null, .null, .null, .null, .null, .int 0] := ⟨_, rfl, wd_66, wd_67, wd_48, rfl, by decide, rfl⟩
theorem nw_X11_9 : m_nw RX11 9 6 [.null, .int 0, .int 0] := ⟨_, rfl, wd_74, wd_76, wd_49, rfl, by decide, rfl⟩
theorem nw_X11_18 : m_nw RX11 18 1 [.int 0, .null, .int 0] := ⟨_, rfl, wd_94, wd_362, wd_58, rfl, by decide, rfl⟩
theorem nw_X11_32 : m_nw RX11 32 3 [.null, .int 0, .long 0, .long 0] := ⟨_, rfl, wd_103, wd_104, wd_51, rfl, by decide, rfl⟩
theorem nw_X11_39 : m_nw RX11 39 5 [.null, .null, .int 0] := ⟨_, rfl, wd_126, wd_127, wd_52, rfl, by decide, rfl⟩
theorem nw_X6_9 : m_nw RX6 9 3 [.null, .int 0, .long 0, .long 0] := ⟨_, rfl, wd_132, wd_104, wd_51, rfl, by decide, rfl⟩
theorem nw_X11_46 : m_nw RX11 46 2 [.null, .null, .int 0] := ⟨_, rfl, wd_144, wd_145, wd_53, rfl, by decide, rfl⟩
theorem nw_X11_53 : m_nw RX11 53 7 [.null, .null, .int 0, .int 0] := ⟨_, rfl, wd_160, wd_161, wd_54, rfl, by decide, rfl⟩
theorem nw_X1_34 : m_nw RX1 34 8 [.int 0, .null, .int 0] := ⟨_, rfl, wd_333, wd_334, wd_61, rfl, by decide, rfl⟩
theorem nw_X1_8 : m_nw RX1 8 1 [.int 0, .null, .int 0] := ⟨_, rfl, wd_361, wd_362, wd_58, rfl, by decide, rfl⟩
theorem nw_X1_50 : m_nw RX1 50 9 [.int 0, .null, .int 0] := ⟨_, rfl, wd_368, wd_369, wd_62, rfl, by decide, rfl⟩
theorem nw_X1_53 : m_nw RX1 53 0 [.int 0, .null, .int 0] := ⟨_, rfl, wd_378, wd_379, wd_63, rfl, by decide, rfl⟩
theorem nw_X1_56 : m_nw RX1 56 4 [.int 0, .null, .int 0] := ⟨_, rfl, wd_388, wd_389, wd_64, rfl, by decide, rfl⟩
theorem nw_X11_174 : m_nw RX11 174 9 [.int 0, .null, .int 0] := ⟨_, rfl, wd_567, wd_369, wd_62, rfl, by decide, rfl⟩
theorem nw_X11_276 : m_nw RX11 276 8 [.int 0, .null, .int 0] := ⟨_, rfl, wd_741, wd_334, wd_61, rfl, by decide, rfl⟩
theorem nw_X11_278 : m_nw RX11 278 0 [.int 0, .null, .int 0] := ⟨_, rfl, wd_742, wd_379, wd_63, rfl, by decide, rfl⟩
theorem nw_X11_280 : m_nw RX11 280 4 [.int 0, .null, .int 0] := ⟨_, rfl, wd_743, wd_389, wd_64, rfl, by decide, rfl⟩
theorem nw_L_10 : m_nw RL 10 11 [.int 0, .int 0, .null, .null, .null, .null, .null, .null, .null, .null, .null, .null, .null, .null, .null, .null, .null, .null, .null, .null, .int 0, .int 0, .null, .null, .null, .null] := ⟨_, rfl, wd_872, wd_873, wd_55, rfl, by decide, rfl⟩
theorem ac_int : Cond.arrayClass (newarray.typeOf .int) ∈ mGood := m_mem 93 (by decide +kernel) rfl
theorem ac_long : Cond.arrayClass (newarray.typeOf .long) ∈ mGood := m_mem 125 (by decide +kernel) rfl
theorem ac_boolean : Cond.arrayClass (newarray.typeOf .boolean) ∈ mGood := m_mem 957 (by decide +kernel) rfl
theorem oi_1 : Cond.instanceMethod Lib.objectInit ∈ mGood := wd_72
theorem oi_2 : Cond.code Lib.objectInit ⟨#[0xb1]⟩ 1 none ∈ mGood := wd_73
theorem ap_1 : Cond.native arraycopyName ∈ mGood := wd_249
theorem ap_2 : Cond.static arraycopyName ∈ mGood := wd_248
theorem ap_3 : Cond.initialized "java/lang/System" ∈ mGood := wd_56
theorem ci_X0_1 : m_cI RX0 1 MX10_init 3 := ⟨cb_X10_init, wd_383, wd_371, rfl, rfl⟩
theorem cv_X0_7_6 : m_cV RX0 7 6 MX7_add 1 := ⟨_, rfl, cb_X7_add, wd_760, Or.inl ⟨wd_759, wd_761⟩⟩
theorem cu_X0_13 : m_cU RX0 13 MX10_sizeAsked 1 := ⟨cb_X10_sizeAsked, wd_764, ⟨"SphereSheets$Three", "sizeAsked", "(LSphereSheets$Row;)I"⟩, wd_763, wd_1197, wd_387, rfl, by decide, Or.inl rfl⟩
theorem ol_X1_1 : Cond.methodLink RX1 1 Lib.objectInit ∈ mGood := wd_341
theorem cs_X1_20 : m_cS RX1 20 MX5_ledTogether 2 := ⟨cb_X5_ledTogether, wd_294, wd_295⟩
theorem cs_X1_26 : m_cS RX1 26 MX5_groups 2 := ⟨cb_X5_groups, wd_310, wd_311⟩
theorem cs_X1_30 : m_cS RX1 30 MX1_exchangesAhead 2 := ⟨cb_X1_exchangesAhead, wd_322, wd_323⟩
theorem ci_X1_36 : m_cI RX1 36 MX9_init 3 := ⟨cb_X9_init, wd_335, wd_336, rfl, rfl⟩
theorem ci_X1_39 : m_cI RX1 39 MX1_init 3 := ⟨cb_X1_init, wd_363, wd_339, rfl, rfl⟩
theorem cs_X1_40 : m_cS RX1 40 MX8_one 1 := ⟨cb_X8_one, wd_325, wd_326⟩
theorem cs_X1_46 : m_cS RX1 46 MX8_lengthsOf 2 := ⟨cb_X8_lengthsOf, wd_328, wd_329⟩
theorem ci_X1_52 : m_cI RX1 52 MX10_init 3 := ⟨cb_X10_init, wd_370, wd_371, rfl, rfl⟩
theorem ci_X1_55 : m_cI RX1 55 MX0_init 3 := ⟨cb_X0_init, wd_380, wd_381, rfl, rfl⟩
theorem ci_X1_58 : m_cI RX1 58 MX4_init 3 := ⟨cb_X4_init, wd_390, wd_391, rfl, rfl⟩
theorem cv_X1_59_6 : m_cV RX1 59 6 MX7_add 1 := ⟨_, rfl, cb_X7_add, wd_760, Or.inl ⟨wd_791, wd_761⟩⟩
theorem cv_X1_65_0 : m_cV RX1 65 0 MX1_noTurn 1 := ⟨_, rfl, cb_X1_noTurn, wd_592, Or.inl ⟨wd_591, wd_595⟩⟩
theorem cv_X1_65_1 : m_cV RX1 65 1 MX1_noTurn 1 := ⟨_, rfl, cb_X1_noTurn, wd_592, Or.inl ⟨wd_591, wd_593⟩⟩
theorem cv_X1_65_4 : m_cV RX1 65 4 MX1_noTurn 1 := ⟨_, rfl, cb_X1_noTurn, wd_592, Or.inl ⟨wd_591, wd_596⟩⟩
theorem cv_X1_65_8 : m_cV RX1 65 8 MX1_noTurn 1 := ⟨_, rfl, cb_X1_noTurn, wd_592, Or.inl ⟨wd_591, wd_597⟩⟩
theorem cv_X1_65_9 : m_cV RX1 65 9 MX1_noTurn 1 := ⟨_, rfl, cb_X1_noTurn, wd_592, Or.inl ⟨wd_591, wd_598⟩⟩
theorem cs_X1_69 : m_cS RX1 69 MX5_still 1 := ⟨cb_X5_still, wd_434, wd_266⟩
theorem cv_X1_72_0 : m_cV RX1 72 0 MX1_turnAt 1 := ⟨_, rfl, cb_X1_turnAt, wd_583, Or.inl ⟨wd_582, wd_586⟩⟩
theorem cv_X1_72_1 : m_cV RX1 72 1 MX1_turnAt 1 := ⟨_, rfl, cb_X1_turnAt, wd_583, Or.inl ⟨wd_582, wd_584⟩⟩
theorem cv_X1_72_4 : m_cV RX1 72 4 MX1_turnAt 1 := ⟨_, rfl, cb_X1_turnAt, wd_583, Or.inl ⟨wd_582, wd_587⟩⟩
theorem cv_X1_72_8 : m_cV RX1 72 8 MX1_turnAt 1 := ⟨_, rfl, cb_X1_turnAt, wd_583, Or.inl ⟨wd_582, wd_588⟩⟩
theorem cv_X1_72_9 : m_cV RX1 72 9 MX1_turnAt 1 := ⟨_, rfl, cb_X1_turnAt, wd_583, Or.inl ⟨wd_582, wd_589⟩⟩
theorem cs_X1_75 : m_cS RX1 75 MX5_at 2 := ⟨cb_X5_at, wd_432, wd_286⟩
theorem cs_X1_78 : m_cS RX1 78 MX5_inverse 2 := ⟨cb_X5_inverse, wd_566, wd_289⟩
theorem cs_X1_81 : m_cS RX1 81 MX8_total 1 := ⟨cb_X8_total, wd_630, wd_631⟩
theorem cv_X1_85_0 : m_cV RX1 85 0 MX1_rounds 1 := ⟨_, rfl, cb_X1_rounds, wd_622, Or.inl ⟨wd_621, wd_625⟩⟩
theorem cv_X1_85_1 : m_cV RX1 85 1 MX1_rounds 1 := ⟨_, rfl, cb_X1_rounds, wd_622, Or.inl ⟨wd_621, wd_623⟩⟩
theorem cv_X1_85_4 : m_cV RX1 85 4 MX1_rounds 1 := ⟨_, rfl, cb_X1_rounds, wd_622, Or.inl ⟨wd_621, wd_626⟩⟩
theorem cv_X1_85_8 : m_cV RX1 85 8 MX1_rounds 1 := ⟨_, rfl, cb_X1_rounds, wd_622, Or.inl ⟨wd_621, wd_627⟩⟩
theorem cv_X1_85_9 : m_cV RX1 85 9 MX1_rounds 1 := ⟨_, rfl, cb_X1_rounds, wd_622, Or.inl ⟨wd_621, wd_628⟩⟩
theorem cs_X1_89 : m_cS RX1 89 MX5_merged 4 := ⟨cb_X5_merged, wd_527, wd_302⟩
theorem cs_X1_93 : m_cS RX1 93 MX5_behind 3 := ⟨cb_X5_behind, wd_528, wd_283⟩
theorem cs_X1_97 : m_cS RX1 97 MX5_mergedAlong 4 := ⟨cb_X5_mergedAlong, wd_529, wd_299⟩
theorem cs_X1_101 : m_cS RX1 101 MJ6_bitCount_0f7a4 1 := ⟨cb_J6_bitCount_0f7a4, wd_433, wd_317⟩
theorem cv_X1_106_0 : m_cV RX1 106 0 MX1_narrowed 2 := ⟨_, rfl, cb_X1_narrowed, wd_437, Or.inl ⟨wd_435, wd_1212⟩⟩
theorem cv_X1_106_1 : m_cV RX1 106 1 MX1_narrowed 2 := ⟨_, rfl, cb_X1_narrowed, wd_437, Or.inl ⟨wd_435, wd_3⟩⟩
theorem cv_X1_106_4 : m_cV RX1 106 4 MX1_narrowed 2 := ⟨_, rfl, cb_X1_narrowed, wd_437, Or.inl ⟨wd_435, wd_1213⟩⟩
theorem cv_X1_106_8 : m_cV RX1 106 8 MX1_narrowed 2 := ⟨_, rfl, cb_X1_narrowed, wd_437, Or.inl ⟨wd_435, wd_1214⟩⟩
theorem cv_X1_106_9 : m_cV RX1 106 9 MX1_narrowed 2 := ⟨_, rfl, cb_X1_narrowed, wd_437, Or.inl ⟨wd_435, wd_1215⟩⟩
theorem cs_X1_110 : m_cS RX1 110 MX1_of 2 := ⟨cb_X1_of, wd_440, wd_292⟩
theorem cv_X1_114_0 : m_cV RX1 114 0 MX1_blockLabels 2 := ⟨_, rfl, cb_X1_blockLabels, wd_519, Or.inl ⟨wd_518, wd_522⟩⟩
theorem cv_X1_114_1 : m_cV RX1 114 1 MX1_blockLabels 2 := ⟨_, rfl, cb_X1_blockLabels, wd_519, Or.inl ⟨wd_518, wd_520⟩⟩
theorem cv_X1_114_4 : m_cV RX1 114 4 MX1_blockLabels 2 := ⟨_, rfl, cb_X1_blockLabels, wd_519, Or.inl ⟨wd_518, wd_523⟩⟩
theorem cv_X1_114_8 : m_cV RX1 114 8 MX1_blockLabels 2 := ⟨_, rfl, cb_X1_blockLabels, wd_519, Or.inl ⟨wd_518, wd_524⟩⟩
theorem cv_X1_114_9 : m_cV RX1 114 9 MX1_blockLabels 2 := ⟨_, rfl, cb_X1_blockLabels, wd_519, Or.inl ⟨wd_518, wd_525⟩⟩
theorem cs_X1_118 : m_cS RX1 118 MX5_leaders 2 := ⟨cb_X5_leaders, wd_530, wd_314⟩
theorem cs_X1_121 : m_cS RX1 121 MX5_with 3 := ⟨cb_X5_with, wd_439, wd_269⟩
theorem cs_X1_125 : m_cS RX1 125 MJ7_copyOf_c38d5 2 := ⟨cb_J7_copyOf_c38d5, wd_544, wd_485⟩
theorem cs_X1_131 : m_cS RX1 131 MX5_leadForward 3 := ⟨cb_X5_leadForward, wd_545, wd_546⟩
theorem cs_X1_135 : m_cS RX1 135 MX5_leadBack 3 := ⟨cb_X5_leadBack, wd_550, wd_551⟩
theorem ol_X2_3 : Cond.methodLink RX2 3 Lib.objectInit ∈ mGood := wd_149
theorem cs_X2_27 : m_cS RX2 27 MJ7_fill_d0a16 2 := ⟨cb_J7_fill_d0a16, wd_640, wd_641⟩
theorem cv_X2_36_2 : m_cV RX2 36 2 MX2_sift 2 := ⟨_, rfl, cb_X2_sift, wd_645, Or.inl ⟨wd_643, wd_9⟩⟩
theorem cs_X2_40 : m_cS RX2 40 MX5_behind 3 := ⟨cb_X5_behind, wd_649, wd_283⟩
theorem cv_X2_46_2 : m_cV RX2 46 2 MX2_product 1 := ⟨_, rfl, cb_X2_product, wd_652, Or.inl ⟨wd_650, wd_10⟩⟩
theorem cs_X2_50 : m_cS RX2 50 MX5_at 2 := ⟨cb_X5_at, wd_647, wd_286⟩
theorem cs_X2_54 : m_cS RX2 54 MX5_inverse 2 := ⟨cb_X5_inverse, wd_648, wd_289⟩
theorem ol_X3_3 : Cond.methodLink RX3 3 Lib.objectInit ∈ mGood := wd_108
theorem cs_X3_15 : m_cS RX3 15 MX5_still 1 := ⟨cb_X5_still, wd_458, wd_266⟩
theorem cs_X3_21 : m_cS RX3 21 MX5_at 2 := ⟨cb_X5_at, wd_459, wd_286⟩
theorem cv_X3_25_3 : m_cV RX3 25 3 MX3_numberFrom 3 := ⟨_, rfl, cb_X3_numberFrom, wd_462, Or.inl ⟨wd_460, wd_4⟩⟩
theorem cv_X3_29_3 : m_cV RX3 29 3 MX3_againstLeast 2 := ⟨_, rfl, cb_X3_againstLeast, wd_467, Or.inl ⟨wd_465, wd_5⟩⟩
theorem cv_X3_33_3 : m_cV RX3 33 3 MX3_keepAsLeast 2 := ⟨_, rfl, cb_X3_keepAsLeast, wd_478, Or.inl ⟨wd_476, wd_7⟩⟩
theorem cs_X3_41 : m_cS RX3 41 MX5_mergedAlong 4 := ⟨cb_X5_mergedAlong, wd_480, wd_299⟩
theorem cs_X3_45 : m_cS RX3 45 MX5_withFirst 2 := ⟨cb_X5_withFirst, wd_481, wd_482⟩
theorem cs_X3_55 : m_cS RX3 55 MX5_with 3 := ⟨cb_X5_with, wd_464, wd_269⟩
theorem cv_X3_59_3 : m_cV RX3 59 3 MX3_renamed 2 := ⟨_, rfl, cb_X3_renamed, wd_471, Or.inl ⟨wd_469, wd_6⟩⟩
theorem cs_X3_63 : m_cS RX3 63 MJ13_compare_74951 2 := ⟨cb_J13_compare_74951, wd_473, wd_474⟩
theorem ci_X4_1 : m_cI RX4 1 MX0_init 3 := ⟨cb_X0_init, wd_393, wd_381, rfl, rfl⟩
theorem cv_X4_7_6 : m_cV RX4 7 6 MX7_add 1 := ⟨_, rfl, cb_X7_add, wd_760, Or.inl ⟨wd_777, wd_761⟩⟩
theorem cu_X4_13 : m_cU RX4 13 MX0_sizeAsked 1 := ⟨cb_X0_sizeAsked, wd_757, ⟨"SphereSheets$Bristled", "sizeAsked", "(LSphereSheets$Row;)I"⟩, wd_778, wd_1198, wd_397, rfl, by decide, Or.inl rfl⟩
theorem cv_X4_17_4 : m_cV RX4 17 4 MX4_markAsked 1 := ⟨_, rfl, cb_X4_markAsked, wd_780, Or.inl ⟨wd_779, wd_781⟩⟩
theorem cu_X4_22 : m_cU RX4 22 MX10_markAsked 1 := ⟨cb_X10_markAsked, wd_786, ⟨"SphereSheets$Bristled", "markAsked", "(LSphereSheets$Row;)I"⟩, wd_783, wd_784, wd_397, rfl, by decide, Or.inr wd_387⟩
theorem cv_X4_23_4 : m_cV RX4 23 4 MX1_rounds 1 := ⟨_, rfl, cb_X1_rounds, wd_622, Or.inr ⟨⟨"SphereSheets$One", "rounds", "(I)I"⟩, "SphereSheets$Cover", wd_792, wd_793, wd_794, by decide +kernel, ⟨by decide, by decide⟩, Or.inl rfl⟩⟩
theorem cs_X5_9 : m_cS RX5 9 MX5_with 3 := ⟨cb_X5_with, wd_268, wd_269⟩
theorem cs_X5_13 : m_cS RX5 13 MX5_at 2 := ⟨cb_X5_at, wd_285, wd_286⟩
theorem mm_X5_17 : Cond.methodLink RX5 17 Lib.Math.min.name ∈ mGood := wd_304
theorem mmin_1 : Cond.static Lib.Math.min.name ∈ mGood := wd_305
theorem mmin_2 : Cond.initialized "java/lang/Math" ∈ mGood := wd_59
theorem mmin_3 : Cond.code Lib.Math.min.name Lib.Math.min.code 2 (some .int) ∈ mGood := wd_306
theorem mm_X5_23 : Cond.methodLink RX5 23 Lib.Math.max.name ∈ mGood := wd_307
theorem mmax_1 : Cond.static Lib.Math.max.name ∈ mGood := wd_308
theorem mmax_2 : Cond.initialized "java/lang/Math" ∈ mGood := wd_59
theorem mmax_3 : Cond.code Lib.Math.max.name Lib.Math.max.code 2 (some .int) ∈ mGood := wd_309
theorem cs_X5_26 : m_cS RX5 26 MX5_merged 4 := ⟨cb_X5_merged, wd_301, wd_302⟩
theorem cs_X5_30 : m_cS RX5 30 MX5_still 1 := ⟨cb_X5_still, wd_297, wd_266⟩
theorem cs_X5_34 : m_cS RX5 34 MX5_mergedAlong 4 := ⟨cb_X5_mergedAlong, wd_298, wd_299⟩
theorem cs_X5_38 : m_cS RX5 38 MX5_leaders 2 := ⟨cb_X5_leaders, wd_313, wd_314⟩
theorem cs_X5_41 : m_cS RX5 41 MJ6_bitCount_0f7a4 1 := ⟨cb_J6_bitCount_0f7a4, wd_316, wd_317⟩
theorem cs_X5_47 : m_cS RX5 47 MX5_inverse 2 := ⟨cb_X5_inverse, wd_548, wd_289⟩
theorem cs_X5_51 : m_cS RX5 51 MX5_behind 3 := ⟨cb_X5_behind, wd_549, wd_283⟩
theorem ol_X6_3 : Cond.methodLink RX6 3 Lib.objectInit ∈ mGood := wd_131
theorem ci_X6_11 : m_cI RX6 11 MX3_init 0 := ⟨cb_X3_init, wd_133, wd_106, rfl, rfl⟩
theorem cv_X6_34_3 : m_cV RX6 34 3 MX3_find 2 := ⟨_, rfl, cb_X3_find, wd_455, Or.inl ⟨wd_692, wd_456⟩⟩
theorem cv_X6_38_5 : m_cV RX6 38 5 MX6_keep 1 := ⟨_, rfl, cb_X6_keep, wd_695, Or.inl ⟨wd_693, wd_12⟩⟩
theorem al_X6_42 : Cond.methodLink RX6 42 arraycopyName ∈ mGood := wd_697
theorem cs_X6_48 : m_cS RX6 48 MX5_leadForward 3 := ⟨cb_X5_leadForward, wd_698, wd_546⟩
theorem cv_X6_54_5 : m_cV RX6 54 5 MX6_known 1 := ⟨_, rfl, cb_X6_known, wd_701, Or.inl ⟨wd_699, wd_13⟩⟩
theorem cv_X6_61_5 : m_cV RX6 61 5 MX6_isLeastAt 2 := ⟨_, rfl, cb_X6_isLeastAt, wd_705, Or.inl ⟨wd_703, wd_14⟩⟩
theorem ol_X7_1 : Cond.methodLink RX7 1 Lib.objectInit ∈ mGood := wd_80
theorem cs_X7_20 : m_cS RX7 20 MJ7_fill_53178 2 := ⟨cb_J7_fill_53178, wd_100, wd_101⟩
theorem cv_X7_26_6 : m_cV RX7 26 6 MX7_holds 2 := ⟨_, rfl, cb_X7_holds, wd_231, Or.inl ⟨wd_238, wd_232⟩⟩
theorem al_X7_30 : Cond.methodLink RX7 30 arraycopyName ∈ mGood := wd_247
theorem cv_X7_36_6 : m_cV RX7 36 6 MX7_item 1 := ⟨_, rfl, cb_X7_item, wd_276, Or.inl ⟨wd_275, wd_277⟩⟩
theorem cs_X7_44 : m_cS RX7 44 MX5_with 3 := ⟨cb_X5_with, wd_280, wd_269⟩
theorem ol_X8_3 : Cond.methodLink RX8 3 Lib.objectInit ∈ mGood := wd_165
theorem cs_X8_18 : m_cS RX8 18 MX5_at 2 := ⟨cb_X5_at, wd_331, wd_286⟩
theorem cs_X8_24 : m_cS RX8 24 MX8_one 1 := ⟨cb_X8_one, wd_332, wd_326⟩
theorem cs_X8_28 : m_cS RX8 28 MX8_times 2 := ⟨cb_X8_times, wd_633, wd_634⟩
theorem cv_X8_36_7 : m_cV RX8 36 7 MX8_lacks 1 := ⟨_, rfl, cb_X8_lacks, wd_843, Or.inl ⟨wd_842, wd_844⟩⟩
theorem cv_X8_43_7 : m_cV RX8 43 7 MX8_listAll 1 := ⟨_, rfl, cb_X8_listAll, wd_819, Or.inl ⟨wd_817, wd_15⟩⟩
theorem cs_X8_47 : m_cS RX8 47 MJ7_fill_d0a16 2 := ⟨cb_J7_fill_d0a16, wd_825, wd_641⟩
theorem cv_X8_53_7 : m_cV RX8 53 7 MX8_cutAndJoined 3 := ⟨_, rfl, cb_X8_cutAndJoined, wd_828, Or.inl ⟨wd_826, wd_17⟩⟩
theorem cv_X8_57_7 : m_cV RX8 57 7 MX8_nextBelow 2 := ⟨_, rfl, cb_X8_nextBelow, wd_823, Or.inl ⟨wd_821, wd_16⟩⟩
theorem cv_X8_61_7 : m_cV RX8 61 7 MX8_cut 3 := ⟨_, rfl, cb_X8_cut, wd_832, Or.inl ⟨wd_830, wd_18⟩⟩
theorem cv_X8_64_7 : m_cV RX8 64 7 MX8_indexOf 1 := ⟨_, rfl, cb_X8_indexOf, wd_836, Or.inl ⟨wd_834, wd_19⟩⟩
theorem cv_X8_68_7 : m_cV RX8 68 7 MX8_rowsOf 2 := ⟨_, rfl, cb_X8_rowsOf, wd_839, Or.inl ⟨wd_838, wd_840⟩⟩
theorem ci_X9_1 : m_cI RX9 1 MX1_init 3 := ⟨cb_X1_init, wd_338, wd_339, rfl, rfl⟩
theorem cv_X9_7_6 : m_cV RX9 7 6 MX7_add 1 := ⟨_, rfl, cb_X7_add, wd_760, Or.inl ⟨wd_798, wd_761⟩⟩
theorem cu_X9_13 : m_cU RX9 13 MX1_sizeAsked 1 := ⟨cb_X1_sizeAsked, wd_753, ⟨"SphereSheets$Cover", "sizeAsked", "(LSphereSheets$Row;)I"⟩, wd_799, wd_755, wd_360, rfl, by decide, Or.inl rfl⟩
theorem ci_X10_1 : m_cI RX10 1 MX1_init 3 := ⟨cb_X1_init, wd_373, wd_339, rfl, rfl⟩
theorem cv_X10_7_6 : m_cV RX10 7 6 MX7_add 1 := ⟨_, rfl, cb_X7_add, wd_760, Or.inl ⟨wd_766, wd_761⟩⟩
theorem cu_X10_13 : m_cU RX10 13 MX1_sizeAsked 1 := ⟨cb_X1_sizeAsked, wd_753, ⟨"SphereSheets$Cover", "sizeAsked", "(LSphereSheets$Row;)I"⟩, wd_767, wd_755, wd_377, rfl, by decide, Or.inl rfl⟩
theorem cv_X10_17_0 : m_cV RX10 17 0 MX1_rounds 1 := ⟨_, rfl, cb_X1_rounds, wd_622, Or.inr ⟨⟨"SphereSheets$Three", "rounds", "(I)I"⟩, "SphereSheets$Cover", wd_768, wd_769, wd_771, by decide +kernel, ⟨by decide, by decide⟩, Or.inl rfl⟩⟩
theorem cv_X10_17_4 : m_cV RX10 17 4 MX1_rounds 1 := ⟨_, rfl, cb_X1_rounds, wd_622, Or.inr ⟨⟨"SphereSheets$Three", "rounds", "(I)I"⟩, "SphereSheets$Cover", wd_768, wd_769, wd_772, by decide +kernel, ⟨by decide, by decide⟩, Or.inl rfl⟩⟩
theorem cv_X10_17_9 : m_cV RX10 17 9 MX1_rounds 1 := ⟨_, rfl, cb_X1_rounds, wd_622, Or.inr ⟨⟨"SphereSheets$Three", "rounds", "(I)I"⟩, "SphereSheets$Cover", wd_768, wd_769, wd_773, by decide +kernel, ⟨by decide, by decide⟩, Or.inl rfl⟩⟩
theorem cu_X10_23 : m_cU RX10 23 MX1_markAsked 1 := ⟨cb_X1_markAsked, wd_789, ⟨"SphereSheets$Cover", "markAsked", "(LSphereSheets$Row;)I"⟩, wd_788, wd_1199, wd_377, rfl, by decide, Or.inl rfl⟩
theorem ol_X11_1 : Cond.methodLink RX11 1 Lib.objectInit ∈ mGood := wd_71
theorem ci_X11_15 : m_cI RX11 15 MX7_init 1 := ⟨cb_X7_init, wd_77, wd_78, rfl, rfl⟩
theorem cv_X11_28_6 : m_cV RX11 28 6 MX7_begin 2 := ⟨_, rfl, cb_X7_begin, wd_97, Or.inl ⟨wd_96, wd_98⟩⟩
theorem ci_X11_34 : m_cI RX11 34 MX3_init 0 := ⟨cb_X3_init, wd_105, wd_106, rfl, rfl⟩
theorem ci_X11_41 : m_cI RX11 41 MX6_init 0 := ⟨cb_X6_init, wd_128, wd_129, rfl, rfl⟩
theorem ci_X11_48 : m_cI RX11 48 MX2_init 0 := ⟨cb_X2_init, wd_146, wd_147, rfl, rfl⟩
theorem ci_X11_55 : m_cI RX11 55 MX8_init 0 := ⟨cb_X8_init, wd_162, wd_163, rfl, rfl⟩
theorem cs_X11_60 : m_cS RX11 60 MX11_noRow 1 := ⟨cb_X11_noRow, wd_209, wd_210⟩
theorem cv_X11_65_10 : m_cV RX11 65 10 MX11_found 1 := ⟨_, rfl, cb_X11_found, wd_215, Or.inl ⟨wd_213, wd_0⟩⟩
theorem cv_X11_69_10 : m_cV RX11 69 10 MX11_fine 1 := ⟨_, rfl, cb_X11_fine, wd_220, Or.inl ⟨wd_218, wd_1⟩⟩
theorem cv_X11_72_6 : m_cV RX11 72 6 MX7_missing 0 := ⟨_, rfl, cb_X7_missing, wd_227, Or.inl ⟨wd_226, wd_228⟩⟩
theorem cv_X11_76_6 : m_cV RX11 76 6 MX7_holds 2 := ⟨_, rfl, cb_X7_holds, wd_231, Or.inl ⟨wd_230, wd_232⟩⟩
theorem cv_X11_80_6 : m_cV RX11 80 6 MX7_put 2 := ⟨_, rfl, cb_X7_put, wd_235, Or.inl ⟨wd_234, wd_236⟩⟩
theorem cv_X11_88_6 : m_cV RX11 88 6 MX7_take 4 := ⟨_, rfl, cb_X7_take, wd_244, Or.inl ⟨wd_243, wd_245⟩⟩
theorem cv_X11_95_6 : m_cV RX11 95 6 MX7_end 0 := ⟨_, rfl, cb_X7_end, wd_255, Or.inl ⟨wd_254, wd_256⟩⟩
theorem cs_X11_98 : m_cS RX11 98 MX11_noPlace 1 := ⟨cb_X11_noPlace, wd_262, wd_263⟩
theorem cs_X11_101 : m_cS RX11 101 MX5_still 1 := ⟨cb_X5_still, wd_265, wd_266⟩
theorem cv_X11_107_6 : m_cV RX11 107 6 MX7_orderFrom 2 := ⟨_, rfl, cb_X7_orderFrom, wd_272, Or.inl ⟨wd_271, wd_273⟩⟩
theorem cs_X11_113 : m_cS RX11 113 MX5_behind 3 := ⟨cb_X5_behind, wd_282, wd_283⟩
theorem cs_X11_117 : m_cS RX11 117 MX5_inverse 2 := ⟨cb_X5_inverse, wd_288, wd_289⟩
theorem cs_X11_121 : m_cS RX11 121 MX1_of 2 := ⟨cb_X1_of, wd_291, wd_292⟩
theorem cv_X11_125_10 : m_cV RX11 125 10 MX11_shelve 2 := ⟨_, rfl, cb_X11_shelve, wd_400, Or.inl ⟨wd_398, wd_2⟩⟩
theorem cv_X11_132_0 : m_cV RX11 132 0 MX1_partAlone 1 := ⟨_, rfl, cb_X1_partAlone, wd_424, Or.inl ⟨wd_423, wd_427⟩⟩
theorem cv_X11_132_1 : m_cV RX11 132 1 MX1_partAlone 1 := ⟨_, rfl, cb_X1_partAlone, wd_424, Or.inl ⟨wd_423, wd_425⟩⟩
theorem cv_X11_132_4 : m_cV RX11 132 4 MX1_partAlone 1 := ⟨_, rfl, cb_X1_partAlone, wd_424, Or.inl ⟨wd_423, wd_428⟩⟩
theorem cv_X11_132_8 : m_cV RX11 132 8 MX1_partAlone 1 := ⟨_, rfl, cb_X1_partAlone, wd_424, Or.inl ⟨wd_423, wd_429⟩⟩
theorem cv_X11_132_9 : m_cV RX11 132 9 MX1_partAlone 1 := ⟨_, rfl, cb_X1_partAlone, wd_424, Or.inl ⟨wd_423, wd_430⟩⟩
theorem cv_X11_136_0 : m_cV RX11 136 0 MX1_whole 0 := ⟨_, rfl, cb_X1_whole, wd_446, Or.inl ⟨wd_445, wd_449⟩⟩
theorem cv_X11_136_1 : m_cV RX11 136 1 MX1_whole 0 := ⟨_, rfl, cb_X1_whole, wd_446, Or.inl ⟨wd_445, wd_447⟩⟩
theorem cv_X11_136_4 : m_cV RX11 136 4 MX1_whole 0 := ⟨_, rfl, cb_X1_whole, wd_446, Or.inl ⟨wd_445, wd_450⟩⟩
theorem cv_X11_136_8 : m_cV RX11 136 8 MX1_whole 0 := ⟨_, rfl, cb_X1_whole, wd_446, Or.inl ⟨wd_445, wd_451⟩⟩
theorem cv_X11_136_9 : m_cV RX11 136 9 MX1_whole 0 := ⟨_, rfl, cb_X1_whole, wd_446, Or.inl ⟨wd_445, wd_452⟩⟩
theorem cv_X11_146_3 : m_cV RX11 146 3 MX3_find 2 := ⟨_, rfl, cb_X3_find, wd_455, Or.inl ⟨wd_454, wd_456⟩⟩
theorem cs_X11_153 : m_cS RX11 153 MJ7_copyOf_c38d5 2 := ⟨cb_J7_copyOf_c38d5, wd_484, wd_485⟩
theorem cv_X11_159_0 : m_cV RX11 159 0 MX1_noSheet 1 := ⟨_, rfl, cb_X1_noSheet, wd_501, Or.inl ⟨wd_500, wd_504⟩⟩
theorem cv_X11_159_1 : m_cV RX11 159 1 MX1_noSheet 1 := ⟨_, rfl, cb_X1_noSheet, wd_501, Or.inl ⟨wd_500, wd_502⟩⟩
theorem cv_X11_159_4 : m_cV RX11 159 4 MX1_noSheet 1 := ⟨_, rfl, cb_X1_noSheet, wd_501, Or.inl ⟨wd_500, wd_505⟩⟩
theorem cv_X11_159_8 : m_cV RX11 159 8 MX1_noSheet 1 := ⟨_, rfl, cb_X1_noSheet, wd_501, Or.inl ⟨wd_500, wd_506⟩⟩
theorem cv_X11_159_9 : m_cV RX11 159 9 MX1_noSheet 1 := ⟨_, rfl, cb_X1_noSheet, wd_501, Or.inl ⟨wd_500, wd_507⟩⟩
theorem cv_X11_162_0 : m_cV RX11 162 0 MX1_ofBlocks 2 := ⟨_, rfl, cb_X1_ofBlocks, wd_510, Or.inl ⟨wd_509, wd_513⟩⟩
theorem cv_X11_162_1 : m_cV RX11 162 1 MX1_ofBlocks 2 := ⟨_, rfl, cb_X1_ofBlocks, wd_510, Or.inl ⟨wd_509, wd_511⟩⟩
theorem cv_X11_162_4 : m_cV RX11 162 4 MX1_ofBlocks 2 := ⟨_, rfl, cb_X1_ofBlocks, wd_510, Or.inl ⟨wd_509, wd_514⟩⟩
theorem cv_X11_162_8 : m_cV RX11 162 8 MX1_ofBlocks 2 := ⟨_, rfl, cb_X1_ofBlocks, wd_510, Or.inl ⟨wd_509, wd_515⟩⟩
theorem cv_X11_162_9 : m_cV RX11 162 9 MX1_ofBlocks 2 := ⟨_, rfl, cb_X1_ofBlocks, wd_510, Or.inl ⟨wd_509, wd_516⟩⟩
theorem cv_X11_166_0 : m_cV RX11 166 0 MX1_ledPast 2 := ⟨_, rfl, cb_X1_ledPast, wd_536, Or.inl ⟨wd_535, wd_539⟩⟩
theorem cv_X11_166_1 : m_cV RX11 166 1 MX1_ledPast 2 := ⟨_, rfl, cb_X1_ledPast, wd_536, Or.inl ⟨wd_535, wd_537⟩⟩
theorem cv_X11_166_4 : m_cV RX11 166 4 MX1_ledPast 2 := ⟨_, rfl, cb_X1_ledPast, wd_536, Or.inl ⟨wd_535, wd_540⟩⟩
theorem cv_X11_166_8 : m_cV RX11 166 8 MX1_ledPast 2 := ⟨_, rfl, cb_X1_ledPast, wd_536, Or.inl ⟨wd_535, wd_541⟩⟩
theorem cv_X11_166_9 : m_cV RX11 166 9 MX1_ledPast 2 := ⟨_, rfl, cb_X1_ledPast, wd_536, Or.inl ⟨wd_535, wd_542⟩⟩
theorem cv_X11_170_0 : m_cV RX11 170 0 MX1_mirror 0 := ⟨_, rfl, cb_X1_mirror, wd_558, Or.inl ⟨wd_557, wd_561⟩⟩
theorem cv_X11_170_1 : m_cV RX11 170 1 MX1_mirror 0 := ⟨_, rfl, cb_X1_mirror, wd_558, Or.inl ⟨wd_557, wd_559⟩⟩
theorem cv_X11_170_4 : m_cV RX11 170 4 MX1_mirror 0 := ⟨_, rfl, cb_X1_mirror, wd_558, Or.inl ⟨wd_557, wd_562⟩⟩
theorem cv_X11_170_8 : m_cV RX11 170 8 MX1_mirror 0 := ⟨_, rfl, cb_X1_mirror, wd_558, Or.inl ⟨wd_557, wd_563⟩⟩
theorem cv_X11_170_9 : m_cV RX11 170 9 MX1_mirror 0 := ⟨_, rfl, cb_X1_mirror, wd_558, Or.inl ⟨wd_557, wd_564⟩⟩
theorem cv_X11_177_0 : m_cV RX11 177 0 MX1_laidOver 1 := ⟨_, rfl, cb_X1_laidOver, wd_574, Or.inl ⟨wd_573, wd_577⟩⟩
theorem cv_X11_177_1 : m_cV RX11 177 1 MX1_laidOver 1 := ⟨_, rfl, cb_X1_laidOver, wd_574, Or.inl ⟨wd_573, wd_575⟩⟩
theorem cv_X11_177_4 : m_cV RX11 177 4 MX1_laidOver 1 := ⟨_, rfl, cb_X1_laidOver, wd_574, Or.inl ⟨wd_573, wd_578⟩⟩
theorem cv_X11_177_8 : m_cV RX11 177 8 MX1_laidOver 1 := ⟨_, rfl, cb_X1_laidOver, wd_574, Or.inl ⟨wd_573, wd_579⟩⟩
theorem cv_X11_177_9 : m_cV RX11 177 9 MX1_laidOver 1 := ⟨_, rfl, cb_X1_laidOver, wd_574, Or.inl ⟨wd_573, wd_580⟩⟩
theorem cv_X11_181_10 : m_cV RX11 181 10 MX11_tellOf 2 := ⟨_, rfl, cb_X11_tellOf, wd_610, Or.inl ⟨wd_608, wd_8⟩⟩
theorem cv_X11_185_0 : m_cV RX11 185 0 MX1_noTurn 1 := ⟨_, rfl, cb_X1_noTurn, wd_592, Or.inl ⟨wd_658, wd_595⟩⟩
theorem cv_X11_185_1 : m_cV RX11 185 1 MX1_noTurn 1 := ⟨_, rfl, cb_X1_noTurn, wd_592, Or.inl ⟨wd_658, wd_593⟩⟩
theorem cv_X11_185_4 : m_cV RX11 185 4 MX1_noTurn 1 := ⟨_, rfl, cb_X1_noTurn, wd_592, Or.inl ⟨wd_658, wd_596⟩⟩
theorem cv_X11_185_8 : m_cV RX11 185 8 MX1_noTurn 1 := ⟨_, rfl, cb_X1_noTurn, wd_592, Or.inl ⟨wd_658, wd_597⟩⟩
theorem cv_X11_185_9 : m_cV RX11 185 9 MX1_noTurn 1 := ⟨_, rfl, cb_X1_noTurn, wd_592, Or.inl ⟨wd_658, wd_598⟩⟩
theorem cv_X11_188_0 : m_cV RX11 188 0 MX1_turnAt 1 := ⟨_, rfl, cb_X1_turnAt, wd_583, Or.inl ⟨wd_659, wd_586⟩⟩
theorem cv_X11_188_1 : m_cV RX11 188 1 MX1_turnAt 1 := ⟨_, rfl, cb_X1_turnAt, wd_583, Or.inl ⟨wd_659, wd_584⟩⟩
theorem cv_X11_188_4 : m_cV RX11 188 4 MX1_turnAt 1 := ⟨_, rfl, cb_X1_turnAt, wd_583, Or.inl ⟨wd_659, wd_587⟩⟩
theorem cv_X11_188_8 : m_cV RX11 188 8 MX1_turnAt 1 := ⟨_, rfl, cb_X1_turnAt, wd_583, Or.inl ⟨wd_659, wd_588⟩⟩
theorem cv_X11_188_9 : m_cV RX11 188 9 MX1_turnAt 1 := ⟨_, rfl, cb_X1_turnAt, wd_583, Or.inl ⟨wd_659, wd_589⟩⟩
theorem cs_X11_191 : m_cS RX11 191 MX5_at 2 := ⟨cb_X5_at, wd_660, wd_286⟩
theorem cs_X11_195 : m_cS RX11 195 MX8_lengthsOf 2 := ⟨cb_X8_lengthsOf, wd_665, wd_329⟩
theorem cs_X11_198 : m_cS RX11 198 MX8_lengthAt 2 := ⟨cb_X8_lengthAt, wd_666, wd_667⟩
theorem cv_X11_201_0 : m_cV RX11 201 0 MX1_blockLabels 2 := ⟨_, rfl, cb_X1_blockLabels, wd_519, Or.inl ⟨wd_674, wd_522⟩⟩
theorem cv_X11_201_1 : m_cV RX11 201 1 MX1_blockLabels 2 := ⟨_, rfl, cb_X1_blockLabels, wd_519, Or.inl ⟨wd_674, wd_520⟩⟩
theorem cv_X11_201_4 : m_cV RX11 201 4 MX1_blockLabels 2 := ⟨_, rfl, cb_X1_blockLabels, wd_519, Or.inl ⟨wd_674, wd_523⟩⟩
theorem cv_X11_201_8 : m_cV RX11 201 8 MX1_blockLabels 2 := ⟨_, rfl, cb_X1_blockLabels, wd_519, Or.inl ⟨wd_674, wd_524⟩⟩
theorem cv_X11_201_9 : m_cV RX11 201 9 MX1_blockLabels 2 := ⟨_, rfl, cb_X1_blockLabels, wd_519, Or.inl ⟨wd_674, wd_525⟩⟩
theorem cs_X11_204 : m_cS RX11 204 MX5_groups 2 := ⟨cb_X5_groups, wd_675, wd_311⟩
theorem cv_X11_207_10 : m_cV RX11 207 10 MX11_alike 2 := ⟨_, rfl, cb_X11_alike, wd_682, Or.inl ⟨wd_680, wd_11⟩⟩
theorem cv_X11_211_5 : m_cV RX11 211 5 MX6_walk 1 := ⟨_, rfl, cb_X6_walk, wd_689, Or.inl ⟨wd_688, wd_690⟩⟩
theorem cv_X11_215_6 : m_cV RX11 215 6 MX7_item 1 := ⟨_, rfl, cb_X7_item, wd_276, Or.inl ⟨wd_711, wd_277⟩⟩
theorem cv_X11_218_0 : m_cV RX11 218 0 MX1_noStep 1 := ⟨_, rfl, cb_X1_noStep, wd_713, Or.inl ⟨wd_712, wd_716⟩⟩
theorem cv_X11_218_1 : m_cV RX11 218 1 MX1_noStep 1 := ⟨_, rfl, cb_X1_noStep, wd_713, Or.inl ⟨wd_712, wd_714⟩⟩
theorem cv_X11_218_4 : m_cV RX11 218 4 MX1_noStep 1 := ⟨_, rfl, cb_X1_noStep, wd_713, Or.inl ⟨wd_712, wd_717⟩⟩
theorem cv_X11_218_8 : m_cV RX11 218 8 MX1_noStep 1 := ⟨_, rfl, cb_X1_noStep, wd_713, Or.inl ⟨wd_712, wd_718⟩⟩
theorem cv_X11_218_9 : m_cV RX11 218 9 MX1_noStep 1 := ⟨_, rfl, cb_X1_noStep, wd_713, Or.inl ⟨wd_712, wd_719⟩⟩
theorem cv_X11_221_0 : m_cV RX11 221 0 MX1_stepped 2 := ⟨_, rfl, cb_X1_stepped, wd_722, Or.inl ⟨wd_721, wd_725⟩⟩
theorem cv_X11_221_1 : m_cV RX11 221 1 MX1_stepped 2 := ⟨_, rfl, cb_X1_stepped, wd_722, Or.inl ⟨wd_721, wd_723⟩⟩
theorem cv_X11_221_4 : m_cV RX11 221 4 MX1_stepped 2 := ⟨_, rfl, cb_X1_stepped, wd_722, Or.inl ⟨wd_721, wd_726⟩⟩
theorem cv_X11_221_8 : m_cV RX11 221 8 MX1_stepped 2 := ⟨_, rfl, cb_X1_stepped, wd_722, Or.inl ⟨wd_721, wd_727⟩⟩
theorem cv_X11_221_9 : m_cV RX11 221 9 MX1_stepped 2 := ⟨_, rfl, cb_X1_stepped, wd_722, Or.inl ⟨wd_721, wd_728⟩⟩
theorem cv_X11_224_0 : m_cV RX11 224 0 MX0_kindNumber 0 := ⟨_, rfl, cb_X0_kindNumber, wd_407, Or.inr ⟨⟨"SphereSheets$Cover", "kindNumber", "()I"⟩, "SphereSheets$Cover", wd_402, wd_405, wd_406, by decide +kernel, ⟨by decide, by decide⟩, Or.inr ⟨wd_403, _, _, _, wd_418⟩⟩⟩
theorem cv_X11_224_1 : m_cV RX11 224 1 MX1_kindNumber 0 := ⟨_, rfl, cb_X1_kindNumber, wd_403, Or.inl ⟨wd_402, wd_404⟩⟩
theorem cv_X11_224_4 : m_cV RX11 224 4 MX4_kindNumber 0 := ⟨_, rfl, cb_X4_kindNumber, wd_410, Or.inr ⟨⟨"SphereSheets$Cover", "kindNumber", "()I"⟩, "SphereSheets$Cover", wd_402, wd_405, wd_409, by decide +kernel, ⟨by decide, by decide⟩, Or.inr ⟨wd_403, _, _, _, wd_418⟩⟩⟩
theorem cv_X11_224_8 : m_cV RX11 224 8 MX9_kindNumber 0 := ⟨_, rfl, cb_X9_kindNumber, wd_413, Or.inr ⟨⟨"SphereSheets$Cover", "kindNumber", "()I"⟩, "SphereSheets$Cover", wd_402, wd_405, wd_412, by decide +kernel, ⟨by decide, by decide⟩, Or.inr ⟨wd_403, _, _, _, wd_418⟩⟩⟩
theorem cv_X11_224_9 : m_cV RX11 224 9 MX10_kindNumber 0 := ⟨_, rfl, cb_X10_kindNumber, wd_416, Or.inr ⟨⟨"SphereSheets$Cover", "kindNumber", "()I"⟩, "SphereSheets$Cover", wd_402, wd_405, wd_415, by decide +kernel, ⟨by decide, by decide⟩, Or.inr ⟨wd_403, _, _, _, wd_418⟩⟩⟩
theorem cs_X11_228 : m_cS RX11 228 MX11_ofKind 2 := ⟨cb_X11_ofKind, wd_738, wd_739⟩
theorem cv_X11_232_0 : m_cV RX11 232 0 MX0_sizeAsked 1 := ⟨_, rfl, cb_X0_sizeAsked, wd_757, Or.inr ⟨⟨"SphereSheets$Cover", "sizeAsked", "(LSphereSheets$Row;)I"⟩, "SphereSheets$Cover", wd_752, wd_755, wd_756, by decide +kernel, ⟨by decide, by decide⟩, Or.inr ⟨wd_753, _, _, _, wd_801⟩⟩⟩
theorem cv_X11_232_1 : m_cV RX11 232 1 MX1_sizeAsked 1 := ⟨_, rfl, cb_X1_sizeAsked, wd_753, Or.inl ⟨wd_752, wd_754⟩⟩
theorem cv_X11_232_4 : m_cV RX11 232 4 MX4_sizeAsked 1 := ⟨_, rfl, cb_X4_sizeAsked, wd_775, Or.inr ⟨⟨"SphereSheets$Cover", "sizeAsked", "(LSphereSheets$Row;)I"⟩, "SphereSheets$Cover", wd_752, wd_755, wd_774, by decide +kernel, ⟨by decide, by decide⟩, Or.inr ⟨wd_753, _, _, _, wd_801⟩⟩⟩
theorem cv_X11_232_8 : m_cV RX11 232 8 MX9_sizeAsked 1 := ⟨_, rfl, cb_X9_sizeAsked, wd_796, Or.inr ⟨⟨"SphereSheets$Cover", "sizeAsked", "(LSphereSheets$Row;)I"⟩, "SphereSheets$Cover", wd_752, wd_755, wd_795, by decide +kernel, ⟨by decide, by decide⟩, Or.inr ⟨wd_753, _, _, _, wd_801⟩⟩⟩
theorem cv_X11_232_9 : m_cV RX11 232 9 MX10_sizeAsked 1 := ⟨_, rfl, cb_X10_sizeAsked, wd_764, Or.inr ⟨⟨"SphereSheets$Cover", "sizeAsked", "(LSphereSheets$Row;)I"⟩, "SphereSheets$Cover", wd_752, wd_755, wd_800, by decide +kernel, ⟨by decide, by decide⟩, Or.inr ⟨wd_753, _, _, _, wd_801⟩⟩⟩
theorem cv_X11_236_0 : m_cV RX11 236 0 MX10_markAsked 1 := ⟨_, rfl, cb_X10_markAsked, wd_786, Or.inr ⟨⟨"SphereSheets$Cover", "markAsked", "(LSphereSheets$Row;)I"⟩, "SphereSheets$Cover", wd_802, wd_1199, wd_1200, by decide +kernel, ⟨by decide, by decide⟩, Or.inr ⟨wd_789, _, _, _, wd_790⟩⟩⟩
theorem cv_X11_236_1 : m_cV RX11 236 1 MX1_markAsked 1 := ⟨_, rfl, cb_X1_markAsked, wd_789, Or.inl ⟨wd_802, wd_1201⟩⟩
theorem cv_X11_236_4 : m_cV RX11 236 4 MX4_markAsked 1 := ⟨_, rfl, cb_X4_markAsked, wd_780, Or.inr ⟨⟨"SphereSheets$Cover", "markAsked", "(LSphereSheets$Row;)I"⟩, "SphereSheets$Cover", wd_802, wd_1199, wd_1202, by decide +kernel, ⟨by decide, by decide⟩, Or.inr ⟨wd_789, _, _, _, wd_790⟩⟩⟩
theorem cv_X11_236_8 : m_cV RX11 236 8 MX1_markAsked 1 := ⟨_, rfl, cb_X1_markAsked, wd_789, Or.inl ⟨wd_802, wd_1203⟩⟩
theorem cv_X11_236_9 : m_cV RX11 236 9 MX10_markAsked 1 := ⟨_, rfl, cb_X10_markAsked, wd_786, Or.inr ⟨⟨"SphereSheets$Cover", "markAsked", "(LSphereSheets$Row;)I"⟩, "SphereSheets$Cover", wd_802, wd_1199, wd_1204, by decide +kernel, ⟨by decide, by decide⟩, Or.inr ⟨wd_789, _, _, _, wd_790⟩⟩⟩
theorem cv_X11_242_7 : m_cV RX11 242 7 MX8_prepare 1 := ⟨_, rfl, cb_X8_prepare, wd_814, Or.inl ⟨wd_813, wd_815⟩⟩
theorem cv_X11_245_7 : m_cV RX11 245 7 MX8_lacks 1 := ⟨_, rfl, cb_X8_lacks, wd_843, Or.inl ⟨wd_846, wd_844⟩⟩
theorem cv_X11_248_7 : m_cV RX11 248 7 MX8_rowsOf 2 := ⟨_, rfl, cb_X8_rowsOf, wd_839, Or.inl ⟨wd_847, wd_840⟩⟩
theorem cv_X11_254_7 : m_cV RX11 254 7 MX8_lengthsAt 1 := ⟨_, rfl, cb_X8_lengthsAt, wd_853, Or.inl ⟨wd_852, wd_854⟩⟩
theorem cv_X11_257_10 : m_cV RX11 257 10 MX11_rowsThere 0 := ⟨_, rfl, cb_X11_rowsThere, wd_862, Or.inl ⟨wd_860, wd_20⟩⟩
theorem cv_X11_260_10 : m_cV RX11 260 10 MX11_coversThere 1 := ⟨_, rfl, cb_X11_coversThere, wd_866, Or.inl ⟨wd_864, wd_21⟩⟩
theorem cv_X11_267_0 : m_cV RX11 267 0 MX1_holes 0 := ⟨_, rfl, cb_X1_holes, wd_613, Or.inl ⟨wd_612, wd_616⟩⟩
theorem cv_X11_267_1 : m_cV RX11 267 1 MX1_holes 0 := ⟨_, rfl, cb_X1_holes, wd_613, Or.inl ⟨wd_612, wd_614⟩⟩
theorem cv_X11_267_4 : m_cV RX11 267 4 MX1_holes 0 := ⟨_, rfl, cb_X1_holes, wd_613, Or.inl ⟨wd_612, wd_617⟩⟩
theorem cv_X11_267_8 : m_cV RX11 267 8 MX1_holes 0 := ⟨_, rfl, cb_X1_holes, wd_613, Or.inl ⟨wd_612, wd_618⟩⟩
theorem cv_X11_267_9 : m_cV RX11 267 9 MX1_holes 0 := ⟨_, rfl, cb_X1_holes, wd_613, Or.inl ⟨wd_612, wd_619⟩⟩
theorem cv_X11_273_2 : m_cV RX11 273 2 MX2_orders 1 := ⟨_, rfl, cb_X2_orders, wd_637, Or.inl ⟨wd_636, wd_638⟩⟩
theorem ol_X12_1 : Cond.methodLink RX12 1 Lib.objectInit ∈ mGood := wd_877
theorem cs_X12_88 : m_cS RX12 88 MX12_in 3 := ⟨cb_X12_in, wd_966, wd_967⟩
theorem cs_X12_92 : m_cS RX12 92 MX12_isRow 1 := ⟨cb_X12_isRow, wd_962, wd_963⟩
theorem cv_X12_99_11 : m_cV RX12 99 11 MX12_found 1 := ⟨_, rfl, cb_X12_found, wd_973, Or.inl ⟨wd_971, wd_22⟩⟩
theorem cv_X12_105_11 : m_cV RX12 105 11 MX12_at 3 := ⟨_, rfl, cb_X12_at, wd_1016, Or.inl ⟨wd_1014, wd_27⟩⟩
theorem cv_X12_109_11 : m_cV RX12 109 11 MX12_rounds 2 := ⟨_, rfl, cb_X12_rounds, wd_1020, Or.inl ⟨wd_1018, wd_28⟩⟩
theorem cv_X12_113_11 : m_cV RX12 113 11 MX12_become 2 := ⟨_, rfl, cb_X12_become, wd_1008, Or.inl ⟨wd_1006, wd_25⟩⟩
theorem cv_X12_117_11 : m_cV RX12 117 11 MX12_kindOf 1 := ⟨_, rfl, cb_X12_kindOf, wd_1012, Or.inl ⟨wd_1010, wd_26⟩⟩
theorem cs_X12_120 : m_cS RX12 120 MX12_isPlace 1 := ⟨cb_X12_isPlace, wd_992, wd_993⟩
theorem cv_X12_127_11 : m_cV RX12 127 11 MX12_put 4 := ⟨_, rfl, cb_X12_put, wd_1000, Or.inl ⟨wd_998, wd_23⟩⟩
theorem cv_X12_131_11 : m_cV RX12 131 11 MX12_lay 1 := ⟨_, rfl, cb_X12_lay, wd_1004, Or.inl ⟨wd_1002, wd_24⟩⟩
theorem cv_X12_134_11 : m_cV RX12 134 11 MX12_parts 1 := ⟨_, rfl, cb_X12_parts, wd_1032, Or.inl ⟨wd_1030, wd_30⟩⟩
theorem cv_X12_137_11 : m_cV RX12 137 11 MX12_look 2 := ⟨_, rfl, cb_X12_look, wd_1028, Or.inl ⟨wd_1026, wd_29⟩⟩
theorem cv_X12_141_11 : m_cV RX12 141 11 MX12_rename 3 := ⟨_, rfl, cb_X12_rename, wd_1044, Or.inl ⟨wd_1042, wd_32⟩⟩
theorem cv_X12_145_11 : m_cV RX12 145 11 MX12_compare 2 := ⟨_, rfl, cb_X12_compare, wd_1048, Or.inl ⟨wd_1046, wd_33⟩⟩
theorem cv_X12_148_11 : m_cV RX12 148 11 MX12_least 2 := ⟨_, rfl, cb_X12_least, wd_1040, Or.inl ⟨wd_1038, wd_31⟩⟩
theorem cv_X12_151_11 : m_cV RX12 151 11 MX12_merge 3 := ⟨_, rfl, cb_X12_merge, wd_1064, Or.inl ⟨wd_1062, wd_36⟩⟩
theorem cv_X12_154_11 : m_cV RX12 154 11 MX12_isSheet 2 := ⟨_, rfl, cb_X12_isSheet, wd_1056, Or.inl ⟨wd_1054, wd_34⟩⟩
theorem cv_X12_158_11 : m_cV RX12 158 11 MX12_blocks 3 := ⟨_, rfl, cb_X12_blocks, wd_1060, Or.inl ⟨wd_1058, wd_35⟩⟩
theorem cv_X12_161_11 : m_cV RX12 161 11 MX12_backAt 3 := ⟨_, rfl, cb_X12_backAt, wd_1076, Or.inl ⟨wd_1074, wd_38⟩⟩
theorem cv_X12_164_11 : m_cV RX12 164 11 MX12_braided 4 := ⟨_, rfl, cb_X12_braided, wd_1072, Or.inl ⟨wd_1070, wd_37⟩⟩
theorem cv_X12_168_11 : m_cV RX12 168 11 MX12_sift 1 := ⟨_, rfl, cb_X12_sift, wd_1102, Or.inl ⟨wd_1100, wd_40⟩⟩
theorem cv_X12_173_11 : m_cV RX12 173 11 MX12_heap 1 := ⟨_, rfl, cb_X12_heap, wd_1098, Or.inl ⟨wd_1096, wd_39⟩⟩
theorem cv_X12_177_11 : m_cV RX12 177 11 MX12_isName 1 := ⟨_, rfl, cb_X12_isName, wd_1127, Or.inl ⟨wd_1125, wd_41⟩⟩
theorem cs_X12_184 : m_cS RX12 184 MX12_isOf 2 := ⟨cb_X12_isOf, wd_1143, wd_1144⟩
theorem cv_X12_190_11 : m_cV RX12 190 11 MX12_began 1 := ⟨_, rfl, cb_X12_began, wd_1160, Or.inl ⟨wd_1158, wd_43⟩⟩
theorem cv_X12_194_11 : m_cV RX12 194 11 MX12_marked 1 := ⟨_, rfl, cb_X12_marked, wd_1164, Or.inl ⟨wd_1162, wd_44⟩⟩
theorem cv_X12_197_11 : m_cV RX12 197 11 MX12_sized 1 := ⟨_, rfl, cb_X12_sized, wd_1156, Or.inl ⟨wd_1154, wd_42⟩⟩
theorem cv_X12_207_11 : m_cV RX12 207 11 MX12_findShapes 1 := ⟨_, rfl, cb_X12_findShapes, wd_1178, Or.inl ⟨wd_1176, wd_45⟩⟩
theorem cv_X12_210_11 : m_cV RX12 210 11 MX12_changed 5 := ⟨_, rfl, cb_X12_changed, wd_1182, Or.inl ⟨wd_1180, wd_46⟩⟩
theorem cn_1 : Cond.methodLink RJ7 319 ⟨"[J", "clone", "()Ljava/lang/Object;"⟩ ∈ mGood := wd_487
theorem cn_2 : Cond.sameMethod "[J" "java/lang/Object" "clone" "()Ljava/lang/Object;" ∈ mGood := wd_488
theorem cn_3 : Cond.native ⟨"java/lang/Object", "clone", "()Ljava/lang/Object;"⟩ ∈ mGood := wd_489
theorem cn_4 : Cond.instanceMethod ⟨"java/lang/Object", "clone", "()Ljava/lang/Object;"⟩ ∈ mGood := wd_490
theorem cn_5 : Cond.selects "[J" ⟨"[J", "clone", "()Ljava/lang/Object;"⟩ ⟨"java/lang/Object", "clone", "()Ljava/lang/Object;"⟩ ∈ mGood := wd_491
theorem mm_J7_304 : Cond.methodLink RJ7 304 Lib.Math.min.name ∈ mGood := wd_494
theorem al_J7_150 : Cond.methodLink RJ7 150 arraycopyName ∈ mGood := wd_495
theorem ci_L_9 : m_cI RL 9 MX11_init 0 := ⟨cb_X11_init, wd_68, wd_69, rfl, rfl⟩
theorem ci_L_12 : m_cI RL 12 MX12_init 0 := ⟨cb_X12_init, wd_874, wd_875, rfl, rfl⟩
theorem cv_L_13_10 : m_cV RL 13 10 MX11_row 3 := ⟨_, rfl, cb_X11_row, wd_206, Or.inl ⟨wd_205, wd_207⟩⟩
theorem cv_L_17_11 : m_cV RL 17 11 MX12_row 3 := ⟨_, rfl, cb_X12_row, wd_959, Or.inl ⟨wd_958, wd_960⟩⟩
theorem cv_L_18_10 : m_cV RL 18 10 MX11_set 3 := ⟨_, rfl, cb_X11_set, wd_223, Or.inl ⟨wd_222, wd_224⟩⟩
theorem cv_L_21_11 : m_cV RL 21 11 MX12_set 3 := ⟨_, rfl, cb_X12_set, wd_977, Or.inl ⟨wd_976, wd_978⟩⟩
theorem cv_L_22_10 : m_cV RL 22 10 MX11_copy 5 := ⟨_, rfl, cb_X11_copy, wd_240, Or.inl ⟨wd_239, wd_241⟩⟩
theorem cv_L_26_11 : m_cV RL 26 11 MX12_copy 5 := ⟨_, rfl, cb_X12_copy, wd_981, Or.inl ⟨wd_980, wd_982⟩⟩
theorem cv_L_27_10 : m_cV RL 27 10 MX11_drop 1 := ⟨_, rfl, cb_X11_drop, wd_251, Or.inl ⟨wd_250, wd_252⟩⟩
theorem cv_L_31_11 : m_cV RL 31 11 MX12_drop 1 := ⟨_, rfl, cb_X12_drop, wd_985, Or.inl ⟨wd_984, wd_986⟩⟩
theorem cv_L_32_10 : m_cV RL 32 10 MX11_cover 5 := ⟨_, rfl, cb_X11_cover, wd_259, Or.inl ⟨wd_258, wd_260⟩⟩
theorem cv_L_35_11 : m_cV RL 35 11 MX12_cover 5 := ⟨_, rfl, cb_X12_cover, wd_989, Or.inl ⟨wd_988, wd_990⟩⟩
theorem cv_L_36_10 : m_cV RL 36 10 MX11_part 3 := ⟨_, rfl, cb_X11_part, wd_420, Or.inl ⟨wd_419, wd_421⟩⟩
theorem cv_L_39_11 : m_cV RL 39 11 MX12_part 3 := ⟨_, rfl, cb_X12_part, wd_1023, Or.inl ⟨wd_1022, wd_1024⟩⟩
theorem cv_L_40_10 : m_cV RL 40 10 MX11_name 2 := ⟨_, rfl, cb_X11_name, wd_442, Or.inl ⟨wd_441, wd_443⟩⟩
theorem cv_L_44_11 : m_cV RL 44 11 MX12_name 2 := ⟨_, rfl, cb_X12_name, wd_1035, Or.inl ⟨wd_1034, wd_1036⟩⟩
theorem cv_L_45_10 : m_cV RL 45 10 MX11_between 4 := ⟨_, rfl, cb_X11_between, wd_497, Or.inl ⟨wd_496, wd_498⟩⟩
theorem cv_L_49_11 : m_cV RL 49 11 MX12_between 4 := ⟨_, rfl, cb_X12_between, wd_1051, Or.inl ⟨wd_1050, wd_1052⟩⟩
theorem cv_L_50_10 : m_cV RL 50 10 MX11_braid 4 := ⟨_, rfl, cb_X11_braid, wd_532, Or.inl ⟨wd_531, wd_533⟩⟩
theorem cv_L_53_11 : m_cV RL 53 11 MX12_braid 4 := ⟨_, rfl, cb_X12_braid, wd_1067, Or.inl ⟨wd_1066, wd_1068⟩⟩
theorem cv_L_54_10 : m_cV RL 54 10 MX11_turn 3 := ⟨_, rfl, cb_X11_turn, wd_554, Or.inl ⟨wd_553, wd_555⟩⟩
theorem cv_L_57_11 : m_cV RL 57 11 MX12_turn 3 := ⟨_, rfl, cb_X12_turn, wd_1079, Or.inl ⟨wd_1078, wd_1080⟩⟩
theorem cv_L_58_10 : m_cV RL 58 10 MX11_over 3 := ⟨_, rfl, cb_X11_over, wd_569, Or.inl ⟨wd_568, wd_570⟩⟩
theorem cv_L_61_11 : m_cV RL 61 11 MX12_over 3 := ⟨_, rfl, cb_X12_over, wd_1083, Or.inl ⟨wd_1082, wd_1084⟩⟩
theorem cv_L_62_10 : m_cV RL 62 10 MX11_clear 1 := ⟨_, rfl, cb_X11_clear, wd_601, Or.inl ⟨wd_600, wd_602⟩⟩
theorem cv_L_65_11 : m_cV RL 65 11 MX12_clear 1 := ⟨_, rfl, cb_X12_clear, wd_1088, Or.inl ⟨wd_1087, wd_1089⟩⟩
theorem cv_L_66_10 : m_cV RL 66 10 MX11_told 2 := ⟨_, rfl, cb_X11_told, wd_605, Or.inl ⟨wd_604, wd_606⟩⟩
theorem cv_L_69_11 : m_cV RL 69 11 MX12_told 2 := ⟨_, rfl, cb_X12_told, wd_1092, Or.inl ⟨wd_1091, wd_1093⟩⟩
theorem cv_L_70_10 : m_cV RL 70 10 MX11_leads 3 := ⟨_, rfl, cb_X11_leads, wd_655, Or.inl ⟨wd_654, wd_656⟩⟩
theorem cv_L_73_11 : m_cV RL 73 11 MX12_leads 3 := ⟨_, rfl, cb_X12_leads, wd_1105, Or.inl ⟨wd_1104, wd_1106⟩⟩
theorem cv_L_74_10 : m_cV RL 74 10 MX11_shape 3 := ⟨_, rfl, cb_X11_shape, wd_662, Or.inl ⟨wd_661, wd_663⟩⟩
theorem cv_L_77_11 : m_cV RL 77 11 MX12_shape 3 := ⟨_, rfl, cb_X12_shape, wd_1109, Or.inl ⟨wd_1108, wd_1110⟩⟩
theorem cv_L_78_10 : m_cV RL 78 10 MX11_block 4 := ⟨_, rfl, cb_X11_block, wd_671, Or.inl ⟨wd_670, wd_672⟩⟩
theorem cv_L_81_11 : m_cV RL 81 11 MX12_block 4 := ⟨_, rfl, cb_X12_block, wd_1114, Or.inl ⟨wd_1113, wd_1115⟩⟩
theorem cv_L_82_10 : m_cV RL 82 10 MX11_same 2 := ⟨_, rfl, cb_X11_same, wd_677, Or.inl ⟨wd_676, wd_678⟩⟩
theorem cv_L_85_11 : m_cV RL 85 11 MX12_same 2 := ⟨_, rfl, cb_X12_same, wd_1118, Or.inl ⟨wd_1117, wd_1119⟩⟩
theorem cv_L_86_10 : m_cV RL 86 10 MX11_ring 1 := ⟨_, rfl, cb_X11_ring, wd_685, Or.inl ⟨wd_684, wd_686⟩⟩
theorem cv_L_89_11 : m_cV RL 89 11 MX12_ring 1 := ⟨_, rfl, cb_X12_ring, wd_1122, Or.inl ⟨wd_1121, wd_1123⟩⟩
theorem cv_L_90_10 : m_cV RL 90 10 MX11_lift 5 := ⟨_, rfl, cb_X11_lift, wd_708, Or.inl ⟨wd_707, wd_709⟩⟩
theorem cv_L_93_11 : m_cV RL 93 11 MX12_lift 5 := ⟨_, rfl, cb_X12_lift, wd_1130, Or.inl ⟨wd_1129, wd_1131⟩⟩
theorem cv_L_94_10 : m_cV RL 94 10 MX11_kind 1 := ⟨_, rfl, cb_X11_kind, wd_731, Or.inl ⟨wd_730, wd_732⟩⟩
theorem cv_L_97_11 : m_cV RL 97 11 MX12_kind 1 := ⟨_, rfl, cb_X12_kind, wd_1135, Or.inl ⟨wd_1134, wd_1136⟩⟩
theorem cv_L_98_10 : m_cV RL 98 10 MX11_is 2 := ⟨_, rfl, cb_X11_is, wd_735, Or.inl ⟨wd_734, wd_736⟩⟩
theorem cv_L_101_11 : m_cV RL 101 11 MX12_is 2 := ⟨_, rfl, cb_X12_is, wd_1139, Or.inl ⟨wd_1138, wd_1140⟩⟩
theorem cv_L_102_10 : m_cV RL 102 10 MX11_as 2 := ⟨_, rfl, cb_X11_as, wd_745, Or.inl ⟨wd_744, wd_746⟩⟩
theorem cv_L_105_11 : m_cV RL 105 11 MX12_as 2 := ⟨_, rfl, cb_X12_as, wd_1147, Or.inl ⟨wd_1146, wd_1148⟩⟩
theorem cv_L_106_10 : m_cV RL 106 10 MX11_ask 2 := ⟨_, rfl, cb_X11_ask, wd_749, Or.inl ⟨wd_748, wd_750⟩⟩
theorem cv_L_109_11 : m_cV RL 109 11 MX12_ask 2 := ⟨_, rfl, cb_X12_ask, wd_1151, Or.inl ⟨wd_1150, wd_1152⟩⟩
theorem cv_L_110_10 : m_cV RL 110 10 MX11_trace 1 := ⟨_, rfl, cb_X11_trace, wd_804, Or.inl ⟨wd_803, wd_805⟩⟩
theorem cv_L_113_11 : m_cV RL 113 11 MX12_trace 1 := ⟨_, rfl, cb_X12_trace, wd_1167, Or.inl ⟨wd_1166, wd_1168⟩⟩
theorem cv_L_114_10 : m_cV RL 114 10 MX11_joins 3 := ⟨_, rfl, cb_X11_joins, wd_809, Or.inl ⟨wd_808, wd_810⟩⟩
theorem cv_L_118_11 : m_cV RL 118 11 MX12_joins 3 := ⟨_, rfl, cb_X12_joins, wd_1171, Or.inl ⟨wd_1170, wd_1172⟩⟩
theorem cv_L_119_10 : m_cV RL 119 10 MX11_shapes 3 := ⟨_, rfl, cb_X11_shapes, wd_849, Or.inl ⟨wd_848, wd_850⟩⟩
theorem cv_L_122_11 : m_cV RL 122 11 MX12_shapes 3 := ⟨_, rfl, cb_X12_shapes, wd_1185, Or.inl ⟨wd_1184, wd_1186⟩⟩
theorem cv_L_123_10 : m_cV RL 123 10 MX11_count 1 := ⟨_, rfl, cb_X11_count, wd_857, Or.inl ⟨wd_856, wd_858⟩⟩
theorem cv_L_126_11 : m_cV RL 126 11 MX12_count 1 := ⟨_, rfl, cb_X12_count, wd_1189, Or.inl ⟨wd_1188, wd_1190⟩⟩
theorem cv_L_127_10 : m_cV RL 127 10 MX11_status 0 := ⟨_, rfl, cb_X11_status, wd_869, Or.inl ⟨wd_868, wd_870⟩⟩
theorem cv_L_131_11 : m_cV RL 131 11 MX12_status 0 := ⟨_, rfl, cb_X12_status, wd_1193, Or.inl ⟨wd_1192, wd_1194⟩⟩
