/-! ===== the tables: methods by their numbers ===== -/
def eMts : List eMeta := [(yX0_init, cX0_init, 2, none, []),
  (yX0_begin, cX0_begin, 3, none, []),
  (yX0_clear, cX0_clear, 1, none, []),
  (yX0_tell, cX0_tell, 2, (some .int), []),
  (yX0_countDocuments, cX0_countDocuments, 3, (some .int), []),
  (yX0_actAt, cX0_actAt, 2, (some .int), []),
  (yX0_requestOf, cX0_requestOf, 5, (some .int), []),
  (yX0_documentsAt, cX0_documentsAt, 5, none, []),
  (yX0_flush, cX0_flush, 2, none, []),
  (yX0_markDone, cX0_markDone, 3, none, []),
  (yX0_addDocument, cX0_addDocument, 3, none, []),
  (yX0_addShown, cX0_addShown, 2, none, []),
  (yX1_init, cX1_init, 2, none, []),
  (yX1_begin, cX1_begin, 2, none, []),
  (yX1_countFrom, cX1_countFrom, 4, none, []),
  (yX1_after, cX1_after, 1, (some .int), []),
  (yX1_firstBlockOf, cX1_firstBlockOf, 1, (some .int), []),
  (yX1_clearImage, cX1_clearImage, 1, none, []),
  (yX1_open, cX1_open, 2, none, []),
  (yX1_addOne, cX1_addOne, 2, none, []),
  (yX1_addTwo, cX1_addTwo, 2, none, []),
  (yX1_close, cX1_close, 1, none, []),
  (yX1_swap, cX1_swap, 4, none, []),
  (yX1_isSo, cX1_isSo, 4, (some .boolean), []),
  (yX1_writeBlock, cX1_writeBlock, 6, none, []),
  (yX2_init, cX2_init, 2, none, []),
  (yX2_begin, cX2_begin, 2, none, []),
  (yX3_init, cX3_init, 2, none, []),
  (yX3_begin, cX3_begin, 3, none, []),
  (yX3_hearAll, cX3_hearAll, 2, none, []),
  (yX3_flush, cX3_flush, 3, none, []),
  (yX3_addView, cX3_addView, 6, none, []),
  (yX3_isAlive, cX3_isAlive, 2, (some .boolean), []),
  (yX3_isInMask, cX3_isInMask, 3, (some .boolean), []),
  (yX3_onSign, cX3_onSign, 9, none, []),
  (yX3_watch, cX3_watch, 5, none, []),
  (yX4_init, cX4_init, 1, none, []),
  (yX4_with, cX4_with, 6, (some (.object "SearchCluster$Message")), []),
  (yX5_init, cX5_init, 3, none, []),
  (yX5_begin, cX5_begin, 2, none, []),
  (yX5_replicaOf, cX5_replicaOf, 2, (some (.object "SearchCluster$Replica")), []),
  (yX5_closeContexts, cX5_closeContexts, 2, none, []),
  (yX5_closeOldContexts, cX5_closeOldContexts, 2, none, []),
  (yX5_usedContexts, cX5_usedContexts, 3, (some .int), []),
  (yX5_beat, cX5_beat, 4, none, []),
  (yX6_init, cX6_init, 1, none, []),
  (yX6_read, cX6_read, 6, (some .int), []),
  (yX6_fault, cX6_fault, 1, (some .int), []),
  (yX7_init, cX7_init, 2, none, []),
  (yX7_begin, cX7_begin, 4, none, []),
  (yX7_isOther, cX7_isOther, 2, (some .boolean), []),
  (yX7_leads, cX7_leads, 2, (some .boolean), []),
  (yX7_setOther, cX7_setOther, 5, none, []),
  (yX7_pulse, cX7_pulse, 2, none, []),
  (yX7_tend, cX7_tend, 4, none, []),
  (yX8_init, cX8_init, 8, none, []),
  (yX8_countWords, cX8_countWords, 3, (some .int), []),
  (yX9_init, cX9_init, 1, none, []),
  (yX10_init, cX10_init, 1, none, []),
  (yX10_begin, cX10_begin, 5, none, []),
  (yX10_holds, cX10_holds, 3, (some .boolean), []),
  (yX10_maskOf, cX10_maskOf, 4, (some .int), []),
  (yX10_shardOf, cX10_shardOf, 2, (some .int), []),
  (yX10_firstPrimaryOf, cX10_firstPrimaryOf, 2, (some .int), []),
  (yX10_requestAt, cX10_requestAt, 2, (some (.object "SearchCluster$Request")), []),
  (yX10_linkOf, cX10_linkOf, 3, (some .int), []),
  (yX10_send, cX10_send, 7, (some (.object "SearchCluster$Message")), []),
  (yX10_messageAt, cX10_messageAt, 5, (some (.object "SearchCluster$Message")), []),
  (yX10_take, cX10_take, 5, (some (.object "SearchCluster$Message")), []),
  (yX10_onLinks, cX10_onLinks, 3, (some .int), []),
  (yX10_skipClosed, cX10_skipClosed, 1, none, []),
  (yX10_ageRequests, cX10_ageRequests, 4, none, []),
  (yX11_init, cX11_init, 2, none, []),
  (yX11_make, cX11_make, 4, (some .int), []),
  (yX11_draft, cX11_draft, 5, (some .int), []),
  (yX11_put, cX11_put, 4, (some .int), []),
  (yX11_drop, cX11_drop, 3, (some .int), []),
  (yX11_refresh, cX11_refresh, 3, (some .int), []),
  (yX11_find, cX11_find, 5, (some .int), []),
  (yX11_request, cX11_request, 4, (some .int), []),
  (yX11_hit, cX11_hit, 5, (some .int), []),
  (yX11_link, cX11_link, 3, (some .int), []),
  (yX11_message, cX11_message, 6, (some .int), []),
  (yX11_deliver, cX11_deliver, 3, (some .int), []),
  (yX11_lose, cX11_lose, 4, (some .int), []),
  (yX11_tick, cX11_tick, 1, (some .int), []),
  (yX11_run, cX11_run, 8, (some .int), []),
  (yX11_up, cX11_up, 2, (some .boolean), []),
  (yX11_down, cX11_down, 2, (some .int), []),
  (yX11_start, cX11_start, 2, (some .boolean), []),
  (yX11_fail, cX11_fail, 4, none, []),
  (yX11_copy, cX11_copy, 5, (some .int), []),
  (yX11_other, cX11_other, 6, (some .int), []),
  (yX11_view, cX11_view, 5, (some .int), []),
  (yX11_document, cX11_document, 5, (some .int), []),
  (yX11_act, cX11_act, 5, (some .int), []),
  (yX11_disk, cX11_disk, 6, (some .int), []),
  (yX11_segment, cX11_segment, 6, (some .int), []),
  (yX11_octet, cX11_octet, 6, (some .int), []),
  (yX11_told, cX11_told, 2, (some .int), []),
  (yX11_requireNode, cX11_requireNode, 2, none, []),
  (yX11_requireHost, cX11_requireHost, 2, none, []),
  (yX11_requireShard, cX11_requireShard, 2, none, []),
  (yX11_requireDocument, cX11_requireDocument, 2, none, []),
  (yX11_requireLink, cX11_requireLink, 3, none, []),
  (yX11_requireReady, cX11_requireReady, 2, none, []),
  (yX11_requireReplica, cX11_requireReplica, 4, (some (.object "SearchCluster$Replica")), []),
  (yX11_requireSegment, cX11_requireSegment, 5, (some (.object "SearchCluster$Index")), []),
  (yX11_draftIsText, cX11_draftIsText, 2, (some .boolean), []),
  (yX11_begin, cX11_begin, 8, none, []),
  (yX11_come, cX11_come, 7, (some .int), []),
  (yX11_fall, cX11_fall, 5, (some .int), []),
  (yX11_pulse, cX11_pulse, 4, none, [(133, 140, 143, 199)]),
  (yX11_contextsInUse, cX11_contextsInUse, 3, (some .int), []),
  (yX11_pass, cX11_pass, 6, (some .int), [(54, 436, 439, 199)]),
  (yX11_replicaFor, cX11_replicaFor, 4, (some (.object "SearchCluster$Replica")), []),
  (yX11_countRows, cX11_countRows, 3, (some .int), []),
  (yX11_rowsOf, cX11_rowsOf, 5, (some (.array .long)), []),
  (yX12_init, cX12_init, 1, none, []),
  (yX12_thrown, cX12_thrown, 1, (some .int), []),
  (yX12_hasCopy, cX12_hasCopy, 3, (some .boolean), []),
  (yX12_copyOf, cX12_copyOf, 3, (some .int), []),
  (yX12_begin, cX12_begin, 7, none, []),
  (yX12_setView, cX12_setView, 6, none, []),
  (yX12_beginCopy, cX12_beginCopy, 6, none, []),
  (yX12_firstDisk, cX12_firstDisk, 3, none, []),
  (yX12_nodeAt, cX12_nodeAt, 3, (some .int), []),
  (yX12_documentAt, cX12_documentAt, 5, (some .int), []),
  (yX12_h1, cX12_h1, 2, none, []),
  (yX12_h2, cX12_h2, 2, none, []),
  (yX12_fillHalf, cX12_fillHalf, 3, none, []),
  (yX12_halfCopy, cX12_halfCopy, 7, none, []),
  (yX12_isOther, cX12_isOther, 3, (some .boolean), []),
  (yX12_send, cX12_send, 7, none, []),
  (yX12_takeFirst, cX12_takeFirst, 6, (some .int), []),
  (yX12_sendSimple, cX12_sendSimple, 6, none, []),
  (yX12_fall, cX12_fall, 4, (some .int), []),
  (yX12_u1, cX12_u1, 2, (some .int), []),
  (yX12_liveRequest, cX12_liveRequest, 5, (some .int), []),
  (yX12_isLetter, cX12_isLetter, 1, (some .boolean), []),
  (yX12_isRow, cX12_isRow, 1, (some .boolean), []),
  (yX12_sign, cX12_sign, 1, (some .int), []),
  (yX12_skipBlanks, cX12_skipBlanks, 1, none, []),
  (yX12_question, cX12_question, 5, none, []),
  (yX12_clause, cX12_clause, 8, none, []),
  (yX12_heard, cX12_heard, 6, none, []),
  (yX12_heardOfShard, cX12_heardOfShard, 7, none, []),
  (yX12_keeperTick, cX12_keeperTick, 5, none, []),
  (yX12_primaryTick, cX12_primaryTick, 5, none, []),
  (yX12_copyTick, cX12_copyTick, 3, none, []),
  (yX12_nodeTick, cX12_nodeTick, 4, none, []),
  (yX12_doTick, cX12_doTick, 2, (some .int), []),
  (yX12_handle, cX12_handle, 3, none, []),
  (yX12_handleOther, cX12_handleOther, 3, none, []),
  (yX12_deliverOne, cX12_deliverOne, 4, (some .int), []),
  (yX12_isNode, cX12_isNode, 2, (some .boolean), []),
  (yX12_isPlace, cX12_isPlace, 2, (some .boolean), []),
  (yX12_make, cX12_make, 4, (some .int), []),
  (yX12_draft, cX12_draft, 5, (some .int), []),
  (yX12_come, cX12_come, 5, (some .int), []),
  (yX12_takeDraft, cX12_takeDraft, 3, none, []),
  (yX12_isText, cX12_isText, 4, (some .boolean), []),
  (yX12_put, cX12_put, 4, (some .int), []),
  (yX12_drop, cX12_drop, 3, (some .int), []),
  (yX12_refresh, cX12_refresh, 3, (some .int), []),
  (yX12_find, cX12_find, 6, (some .int), []),
  (yX12_request, cX12_request, 4, (some .int), []),
  (yX12_hit, cX12_hit, 5, (some .int), []),
  (yX12_link, cX12_link, 3, (some .int), []),
  (yX12_message, cX12_message, 6, (some .int), []),
  (yX12_deliver, cX12_deliver, 3, (some .int), []),
  (yX12_lose, cX12_lose, 3, (some .int), []),
  (yX12_tick, cX12_tick, 1, (some .int), []),
  (yX12_run, cX12_run, 9, (some .int), []),
  (yX12_up, cX12_up, 2, (some .boolean), []),
  (yX12_down, cX12_down, 2, (some .int), []),
  (yX12_start, cX12_start, 2, (some .boolean), []),
  (yX12_fail, cX12_fail, 4, none, []),
  (yX12_isCopy, cX12_isCopy, 3, (some .boolean), []),
  (yX12_copy, cX12_copy, 7, (some .int), []),
  (yX12_other, cX12_other, 7, (some .int), []),
  (yX12_view, cX12_view, 6, (some .int), []),
  (yX12_document, cX12_document, 6, (some .int), []),
  (yX12_act, cX12_act, 5, (some .int), []),
  (yX12_disk, cX12_disk, 6, (some .int), []),
  (yX12_isSegment, cX12_isSegment, 4, (some .boolean), []),
  (yX12_segment, cX12_segment, 8, (some .int), []),
  (yX12_octet, cX12_octet, 5, (some .int), []),
  (yX12_told, cX12_told, 4, (some .int), []),
  (yJ9_floorMod_7cf53, cJ9_floorMod_7cf53, 3, (some .int), []),
  (yJ9_min_7cf53, cJ9_min_7cf53, 2, (some .int), []),
  (yJ7_rangeCheck_23922, cJ7_rangeCheck_23922, 3, none, []),
  (yJ7_fill_53178, cJ7_fill_53178, 4, none, []),
  (yJ7_fill_031fb, cJ7_fill_031fb, 4, none, []),
  (yJ7_fill_eb02e, cJ7_fill_eb02e, 5, none, []),
  (yJ7_copyOf_59c91, cJ7_copyOf_59c91, 3, (some (.array .int)), []),
  (yL_make, cL_make, 6, (some .int), [(0, 12, 15, 13)]),
  (yL_draft, cL_draft, 6, (some .int), [(0, 11, 14, 13)]),
  (yL_put, cL_put, 5, (some .int), [(0, 10, 13, 23), (0, 10, 17, 13), (0, 10, 21, 25)]),
  (yL_drop, cL_drop, 5, (some .int), [(0, 10, 13, 23), (0, 10, 17, 25)]),
  (yL_refresh, cL_refresh, 5, (some .int), [(0, 10, 13, 23), (0, 10, 17, 25)]),
  (yL_find, cL_find, 5, (some .int), [(0, 10, 13, 23), (0, 10, 17, 13), (0, 10, 21, 25)]),
  (yL_request, cL_request, 5, (some .int), [(0, 10, 13, 23)]),
  (yL_hit, cL_hit, 6, (some .int), [(0, 12, 15, 23)]),
  (yL_link, cL_link, 5, (some .int), [(0, 10, 13, 23)]),
  (yL_message, cL_message, 7, (some .int), [(0, 14, 17, 23)]),
  (yL_deliver, cL_deliver, 5, (some .int), [(0, 10, 13, 23)]),
  (yL_lose, cL_lose, 5, (some .int), [(0, 10, 13, 23)]),
  (yL_run, cL_run, 4, (some .int), [(0, 9, 12, 13)]),
  (yL_up, cL_up, 4, (some .int), [(0, 16, 19, 23)]),
  (yL_down, cL_down, 4, (some .int), [(0, 9, 12, 23)]),
  (yL_start, cL_start, 4, (some .int), [(0, 16, 19, 23), (0, 16, 22, 25)]),
  (yL_fail, cL_fail, 5, (some .int), [(0, 7, 10, 23), (0, 7, 14, 13)]),
  (yL_copy, cL_copy, 6, (some .int), [(0, 12, 15, 23)]),
  (yL_other, cL_other, 7, (some .int), [(0, 14, 17, 23)]),
  (yL_view, cL_view, 6, (some .int), [(0, 12, 15, 23)]),
  (yL_document, cL_document, 6, (some .int), [(0, 12, 15, 23)]),
  (yL_act, cL_act, 6, (some .int), [(0, 12, 15, 23)]),
  (yL_disk, cL_disk, 7, (some .int), [(0, 14, 17, 23)]),
  (yL_segment, cL_segment, 7, (some .int), [(0, 14, 17, 23)]),
  (yL_octet, cL_octet, 7, (some .int), [(0, 14, 17, 23)]),
  (yL_told, cL_told, 4, (some .int), [(0, 9, 12, 23)]),
  (yL_law, cL_law, 7, (some .boolean), [])]
def eMt (i : Nat) : eMeta := eMts.getD i (yX0_init, cX0_init, 0, none, [])
theorem eM0 : eMt 0 = (yX0_init, cX0_init, 2, none, []) := rfl
theorem eM1 : eMt 1 = (yX0_begin, cX0_begin, 3, none, []) := rfl
theorem eM2 : eMt 2 = (yX0_clear, cX0_clear, 1, none, []) := rfl
theorem eM3 : eMt 3 = (yX0_tell, cX0_tell, 2, (some .int), []) := rfl
theorem eM4 : eMt 4 = (yX0_countDocuments, cX0_countDocuments, 3, (some .int), []) := rfl
theorem eM5 : eMt 5 = (yX0_actAt, cX0_actAt, 2, (some .int), []) := rfl
theorem eM6 : eMt 6 = (yX0_requestOf, cX0_requestOf, 5, (some .int), []) := rfl
theorem eM7 : eMt 7 = (yX0_documentsAt, cX0_documentsAt, 5, none, []) := rfl
theorem eM8 : eMt 8 = (yX0_flush, cX0_flush, 2, none, []) := rfl
theorem eM9 : eMt 9 = (yX0_markDone, cX0_markDone, 3, none, []) := rfl
theorem eM10 : eMt 10 = (yX0_addDocument, cX0_addDocument, 3, none, []) := rfl
theorem eM11 : eMt 11 = (yX0_addShown, cX0_addShown, 2, none, []) := rfl
theorem eM12 : eMt 12 = (yX1_init, cX1_init, 2, none, []) := rfl
theorem eM13 : eMt 13 = (yX1_begin, cX1_begin, 2, none, []) := rfl
theorem eM14 : eMt 14 = (yX1_countFrom, cX1_countFrom, 4, none, []) := rfl
theorem eM15 : eMt 15 = (yX1_after, cX1_after, 1, (some .int), []) := rfl
theorem eM16 : eMt 16 = (yX1_firstBlockOf, cX1_firstBlockOf, 1, (some .int), []) := rfl
theorem eM17 : eMt 17 = (yX1_clearImage, cX1_clearImage, 1, none, []) := rfl
theorem eM18 : eMt 18 = (yX1_open, cX1_open, 2, none, []) := rfl
theorem eM19 : eMt 19 = (yX1_addOne, cX1_addOne, 2, none, []) := rfl
theorem eM20 : eMt 20 = (yX1_addTwo, cX1_addTwo, 2, none, []) := rfl
theorem eM21 : eMt 21 = (yX1_close, cX1_close, 1, none, []) := rfl
theorem eM22 : eMt 22 = (yX1_swap, cX1_swap, 4, none, []) := rfl
theorem eM23 : eMt 23 = (yX1_isSo, cX1_isSo, 4, (some .boolean), []) := rfl
theorem eM24 : eMt 24 = (yX1_writeBlock, cX1_writeBlock, 6, none, []) := rfl
theorem eM25 : eMt 25 = (yX2_init, cX2_init, 2, none, []) := rfl
theorem eM26 : eMt 26 = (yX2_begin, cX2_begin, 2, none, []) := rfl
theorem eM27 : eMt 27 = (yX3_init, cX3_init, 2, none, []) := rfl
theorem eM28 : eMt 28 = (yX3_begin, cX3_begin, 3, none, []) := rfl
theorem eM29 : eMt 29 = (yX3_hearAll, cX3_hearAll, 2, none, []) := rfl
theorem eM30 : eMt 30 = (yX3_flush, cX3_flush, 3, none, []) := rfl
theorem eM31 : eMt 31 = (yX3_addView, cX3_addView, 6, none, []) := rfl
theorem eM32 : eMt 32 = (yX3_isAlive, cX3_isAlive, 2, (some .boolean), []) := rfl
theorem eM33 : eMt 33 = (yX3_isInMask, cX3_isInMask, 3, (some .boolean), []) := rfl
theorem eM34 : eMt 34 = (yX3_onSign, cX3_onSign, 9, none, []) := rfl
theorem eM35 : eMt 35 = (yX3_watch, cX3_watch, 5, none, []) := rfl
theorem eM36 : eMt 36 = (yX4_init, cX4_init, 1, none, []) := rfl
theorem eM37 : eMt 37 = (yX4_with, cX4_with, 6, (some (.object "SearchCluster$Message")), []) := rfl
theorem eM38 : eMt 38 = (yX5_init, cX5_init, 3, none, []) := rfl
theorem eM39 : eMt 39 = (yX5_begin, cX5_begin, 2, none, []) := rfl
theorem eM40 : eMt 40 = (yX5_replicaOf, cX5_replicaOf, 2, (some (.object "SearchCluster$Replica")), []) := rfl
theorem eM41 : eMt 41 = (yX5_closeContexts, cX5_closeContexts, 2, none, []) := rfl
theorem eM42 : eMt 42 = (yX5_closeOldContexts, cX5_closeOldContexts, 2, none, []) := rfl
theorem eM43 : eMt 43 = (yX5_usedContexts, cX5_usedContexts, 3, (some .int), []) := rfl
theorem eM44 : eMt 44 = (yX5_beat, cX5_beat, 4, none, []) := rfl
theorem eM45 : eMt 45 = (yX6_init, cX6_init, 1, none, []) := rfl
theorem eM46 : eMt 46 = (yX6_read, cX6_read, 6, (some .int), []) := rfl
theorem eM47 : eMt 47 = (yX6_fault, cX6_fault, 1, (some .int), []) := rfl
theorem eM48 : eMt 48 = (yX7_init, cX7_init, 2, none, []) := rfl
theorem eM49 : eMt 49 = (yX7_begin, cX7_begin, 4, none, []) := rfl
theorem eM50 : eMt 50 = (yX7_isOther, cX7_isOther, 2, (some .boolean), []) := rfl
theorem eM51 : eMt 51 = (yX7_leads, cX7_leads, 2, (some .boolean), []) := rfl
theorem eM52 : eMt 52 = (yX7_setOther, cX7_setOther, 5, none, []) := rfl
theorem eM53 : eMt 53 = (yX7_pulse, cX7_pulse, 2, none, []) := rfl
theorem eM54 : eMt 54 = (yX7_tend, cX7_tend, 4, none, []) := rfl
theorem eM55 : eMt 55 = (yX8_init, cX8_init, 8, none, []) := rfl
theorem eM56 : eMt 56 = (yX8_countWords, cX8_countWords, 3, (some .int), []) := rfl
theorem eM57 : eMt 57 = (yX9_init, cX9_init, 1, none, []) := rfl
theorem eM58 : eMt 58 = (yX10_init, cX10_init, 1, none, []) := rfl
theorem eM59 : eMt 59 = (yX10_begin, cX10_begin, 5, none, []) := rfl
theorem eM60 : eMt 60 = (yX10_holds, cX10_holds, 3, (some .boolean), []) := rfl
theorem eM61 : eMt 61 = (yX10_maskOf, cX10_maskOf, 4, (some .int), []) := rfl
theorem eM62 : eMt 62 = (yX10_shardOf, cX10_shardOf, 2, (some .int), []) := rfl
theorem eM63 : eMt 63 = (yX10_firstPrimaryOf, cX10_firstPrimaryOf, 2, (some .int), []) := rfl
theorem eM64 : eMt 64 = (yX10_requestAt, cX10_requestAt, 2, (some (.object "SearchCluster$Request")), []) := rfl
theorem eM65 : eMt 65 = (yX10_linkOf, cX10_linkOf, 3, (some .int), []) := rfl
theorem eM66 : eMt 66 = (yX10_send, cX10_send, 7, (some (.object "SearchCluster$Message")), []) := rfl
theorem eM67 : eMt 67 = (yX10_messageAt, cX10_messageAt, 5, (some (.object "SearchCluster$Message")), []) := rfl
theorem eM68 : eMt 68 = (yX10_take, cX10_take, 5, (some (.object "SearchCluster$Message")), []) := rfl
theorem eM69 : eMt 69 = (yX10_onLinks, cX10_onLinks, 3, (some .int), []) := rfl
theorem eM70 : eMt 70 = (yX10_skipClosed, cX10_skipClosed, 1, none, []) := rfl
theorem eM71 : eMt 71 = (yX10_ageRequests, cX10_ageRequests, 4, none, []) := rfl
theorem eM72 : eMt 72 = (yX11_init, cX11_init, 2, none, []) := rfl
theorem eM73 : eMt 73 = (yX11_make, cX11_make, 4, (some .int), []) := rfl
theorem eM74 : eMt 74 = (yX11_draft, cX11_draft, 5, (some .int), []) := rfl
theorem eM75 : eMt 75 = (yX11_put, cX11_put, 4, (some .int), []) := rfl
theorem eM76 : eMt 76 = (yX11_drop, cX11_drop, 3, (some .int), []) := rfl
theorem eM77 : eMt 77 = (yX11_refresh, cX11_refresh, 3, (some .int), []) := rfl
theorem eM78 : eMt 78 = (yX11_find, cX11_find, 5, (some .int), []) := rfl
theorem eM79 : eMt 79 = (yX11_request, cX11_request, 4, (some .int), []) := rfl
theorem eM80 : eMt 80 = (yX11_hit, cX11_hit, 5, (some .int), []) := rfl
theorem eM81 : eMt 81 = (yX11_link, cX11_link, 3, (some .int), []) := rfl
theorem eM82 : eMt 82 = (yX11_message, cX11_message, 6, (some .int), []) := rfl
theorem eM83 : eMt 83 = (yX11_deliver, cX11_deliver, 3, (some .int), []) := rfl
theorem eM84 : eMt 84 = (yX11_lose, cX11_lose, 4, (some .int), []) := rfl
theorem eM85 : eMt 85 = (yX11_tick, cX11_tick, 1, (some .int), []) := rfl
theorem eM86 : eMt 86 = (yX11_run, cX11_run, 8, (some .int), []) := rfl
theorem eM87 : eMt 87 = (yX11_up, cX11_up, 2, (some .boolean), []) := rfl
theorem eM88 : eMt 88 = (yX11_down, cX11_down, 2, (some .int), []) := rfl
theorem eM89 : eMt 89 = (yX11_start, cX11_start, 2, (some .boolean), []) := rfl
theorem eM90 : eMt 90 = (yX11_fail, cX11_fail, 4, none, []) := rfl
theorem eM91 : eMt 91 = (yX11_copy, cX11_copy, 5, (some .int), []) := rfl
theorem eM92 : eMt 92 = (yX11_other, cX11_other, 6, (some .int), []) := rfl
theorem eM93 : eMt 93 = (yX11_view, cX11_view, 5, (some .int), []) := rfl
theorem eM94 : eMt 94 = (yX11_document, cX11_document, 5, (some .int), []) := rfl
theorem eM95 : eMt 95 = (yX11_act, cX11_act, 5, (some .int), []) := rfl
theorem eM96 : eMt 96 = (yX11_disk, cX11_disk, 6, (some .int), []) := rfl
theorem eM97 : eMt 97 = (yX11_segment, cX11_segment, 6, (some .int), []) := rfl
theorem eM98 : eMt 98 = (yX11_octet, cX11_octet, 6, (some .int), []) := rfl
theorem eM99 : eMt 99 = (yX11_told, cX11_told, 2, (some .int), []) := rfl
theorem eM100 : eMt 100 = (yX11_requireNode, cX11_requireNode, 2, none, []) := rfl
theorem eM101 : eMt 101 = (yX11_requireHost, cX11_requireHost, 2, none, []) := rfl
theorem eM102 : eMt 102 = (yX11_requireShard, cX11_requireShard, 2, none, []) := rfl
theorem eM103 : eMt 103 = (yX11_requireDocument, cX11_requireDocument, 2, none, []) := rfl
theorem eM104 : eMt 104 = (yX11_requireLink, cX11_requireLink, 3, none, []) := rfl
theorem eM105 : eMt 105 = (yX11_requireReady, cX11_requireReady, 2, none, []) := rfl
theorem eM106 : eMt 106 = (yX11_requireReplica, cX11_requireReplica, 4, (some (.object "SearchCluster$Replica")), []) := rfl
theorem eM107 : eMt 107 = (yX11_requireSegment, cX11_requireSegment, 5, (some (.object "SearchCluster$Index")), []) := rfl
theorem eM108 : eMt 108 = (yX11_draftIsText, cX11_draftIsText, 2, (some .boolean), []) := rfl
theorem eM109 : eMt 109 = (yX11_begin, cX11_begin, 8, none, []) := rfl
theorem eM110 : eMt 110 = (yX11_come, cX11_come, 7, (some .int), []) := rfl
theorem eM111 : eMt 111 = (yX11_fall, cX11_fall, 5, (some .int), []) := rfl
theorem eM112 : eMt 112 = (yX11_pulse, cX11_pulse, 4, none, [(133, 140, 143, 199)]) := rfl
theorem eM113 : eMt 113 = (yX11_contextsInUse, cX11_contextsInUse, 3, (some .int), []) := rfl
theorem eM114 : eMt 114 = (yX11_pass, cX11_pass, 6, (some .int), [(54, 436, 439, 199)]) := rfl
theorem eM115 : eMt 115 = (yX11_replicaFor, cX11_replicaFor, 4, (some (.object "SearchCluster$Replica")), []) := rfl
theorem eM116 : eMt 116 = (yX11_countRows, cX11_countRows, 3, (some .int), []) := rfl
theorem eM117 : eMt 117 = (yX11_rowsOf, cX11_rowsOf, 5, (some (.array .long)), []) := rfl
theorem eM118 : eMt 118 = (yX12_init, cX12_init, 1, none, []) := rfl
theorem eM119 : eMt 119 = (yX12_thrown, cX12_thrown, 1, (some .int), []) := rfl
theorem eM120 : eMt 120 = (yX12_hasCopy, cX12_hasCopy, 3, (some .boolean), []) := rfl
theorem eM121 : eMt 121 = (yX12_copyOf, cX12_copyOf, 3, (some .int), []) := rfl
theorem eM122 : eMt 122 = (yX12_begin, cX12_begin, 7, none, []) := rfl
theorem eM123 : eMt 123 = (yX12_setView, cX12_setView, 6, none, []) := rfl
theorem eM124 : eMt 124 = (yX12_beginCopy, cX12_beginCopy, 6, none, []) := rfl
theorem eM125 : eMt 125 = (yX12_firstDisk, cX12_firstDisk, 3, none, []) := rfl
theorem eM126 : eMt 126 = (yX12_nodeAt, cX12_nodeAt, 3, (some .int), []) := rfl
theorem eM127 : eMt 127 = (yX12_documentAt, cX12_documentAt, 5, (some .int), []) := rfl
theorem eM128 : eMt 128 = (yX12_h1, cX12_h1, 2, none, []) := rfl
theorem eM129 : eMt 129 = (yX12_h2, cX12_h2, 2, none, []) := rfl
theorem eM130 : eMt 130 = (yX12_fillHalf, cX12_fillHalf, 3, none, []) := rfl
theorem eM131 : eMt 131 = (yX12_halfCopy, cX12_halfCopy, 7, none, []) := rfl
theorem eM132 : eMt 132 = (yX12_isOther, cX12_isOther, 3, (some .boolean), []) := rfl
theorem eM133 : eMt 133 = (yX12_send, cX12_send, 7, none, []) := rfl
theorem eM134 : eMt 134 = (yX12_takeFirst, cX12_takeFirst, 6, (some .int), []) := rfl
theorem eM135 : eMt 135 = (yX12_sendSimple, cX12_sendSimple, 6, none, []) := rfl
theorem eM136 : eMt 136 = (yX12_fall, cX12_fall, 4, (some .int), []) := rfl
theorem eM137 : eMt 137 = (yX12_u1, cX12_u1, 2, (some .int), []) := rfl
theorem eM138 : eMt 138 = (yX12_liveRequest, cX12_liveRequest, 5, (some .int), []) := rfl
theorem eM139 : eMt 139 = (yX12_isLetter, cX12_isLetter, 1, (some .boolean), []) := rfl
theorem eM140 : eMt 140 = (yX12_isRow, cX12_isRow, 1, (some .boolean), []) := rfl
theorem eM141 : eMt 141 = (yX12_sign, cX12_sign, 1, (some .int), []) := rfl
theorem eM142 : eMt 142 = (yX12_skipBlanks, cX12_skipBlanks, 1, none, []) := rfl
theorem eM143 : eMt 143 = (yX12_question, cX12_question, 5, none, []) := rfl
theorem eM144 : eMt 144 = (yX12_clause, cX12_clause, 8, none, []) := rfl
theorem eM145 : eMt 145 = (yX12_heard, cX12_heard, 6, none, []) := rfl
theorem eM146 : eMt 146 = (yX12_heardOfShard, cX12_heardOfShard, 7, none, []) := rfl
theorem eM147 : eMt 147 = (yX12_keeperTick, cX12_keeperTick, 5, none, []) := rfl
theorem eM148 : eMt 148 = (yX12_primaryTick, cX12_primaryTick, 5, none, []) := rfl
theorem eM149 : eMt 149 = (yX12_copyTick, cX12_copyTick, 3, none, []) := rfl
theorem eM150 : eMt 150 = (yX12_nodeTick, cX12_nodeTick, 4, none, []) := rfl
theorem eM151 : eMt 151 = (yX12_doTick, cX12_doTick, 2, (some .int), []) := rfl
theorem eM152 : eMt 152 = (yX12_handle, cX12_handle, 3, none, []) := rfl
theorem eM153 : eMt 153 = (yX12_handleOther, cX12_handleOther, 3, none, []) := rfl
theorem eM154 : eMt 154 = (yX12_deliverOne, cX12_deliverOne, 4, (some .int), []) := rfl
theorem eM155 : eMt 155 = (yX12_isNode, cX12_isNode, 2, (some .boolean), []) := rfl
theorem eM156 : eMt 156 = (yX12_isPlace, cX12_isPlace, 2, (some .boolean), []) := rfl
theorem eM157 : eMt 157 = (yX12_make, cX12_make, 4, (some .int), []) := rfl
theorem eM158 : eMt 158 = (yX12_draft, cX12_draft, 5, (some .int), []) := rfl
theorem eM159 : eMt 159 = (yX12_come, cX12_come, 5, (some .int), []) := rfl
theorem eM160 : eMt 160 = (yX12_takeDraft, cX12_takeDraft, 3, none, []) := rfl
theorem eM161 : eMt 161 = (yX12_isText, cX12_isText, 4, (some .boolean), []) := rfl
theorem eM162 : eMt 162 = (yX12_put, cX12_put, 4, (some .int), []) := rfl
theorem eM163 : eMt 163 = (yX12_drop, cX12_drop, 3, (some .int), []) := rfl
theorem eM164 : eMt 164 = (yX12_refresh, cX12_refresh, 3, (some .int), []) := rfl
theorem eM165 : eMt 165 = (yX12_find, cX12_find, 6, (some .int), []) := rfl
theorem eM166 : eMt 166 = (yX12_request, cX12_request, 4, (some .int), []) := rfl
theorem eM167 : eMt 167 = (yX12_hit, cX12_hit, 5, (some .int), []) := rfl
theorem eM168 : eMt 168 = (yX12_link, cX12_link, 3, (some .int), []) := rfl
theorem eM169 : eMt 169 = (yX12_message, cX12_message, 6, (some .int), []) := rfl
theorem eM170 : eMt 170 = (yX12_deliver, cX12_deliver, 3, (some .int), []) := rfl
theorem eM171 : eMt 171 = (yX12_lose, cX12_lose, 3, (some .int), []) := rfl
theorem eM172 : eMt 172 = (yX12_tick, cX12_tick, 1, (some .int), []) := rfl
theorem eM173 : eMt 173 = (yX12_run, cX12_run, 9, (some .int), []) := rfl
theorem eM174 : eMt 174 = (yX12_up, cX12_up, 2, (some .boolean), []) := rfl
theorem eM175 : eMt 175 = (yX12_down, cX12_down, 2, (some .int), []) := rfl
theorem eM176 : eMt 176 = (yX12_start, cX12_start, 2, (some .boolean), []) := rfl
theorem eM177 : eMt 177 = (yX12_fail, cX12_fail, 4, none, []) := rfl
theorem eM178 : eMt 178 = (yX12_isCopy, cX12_isCopy, 3, (some .boolean), []) := rfl
theorem eM179 : eMt 179 = (yX12_copy, cX12_copy, 7, (some .int), []) := rfl
theorem eM180 : eMt 180 = (yX12_other, cX12_other, 7, (some .int), []) := rfl
theorem eM181 : eMt 181 = (yX12_view, cX12_view, 6, (some .int), []) := rfl
theorem eM182 : eMt 182 = (yX12_document, cX12_document, 6, (some .int), []) := rfl
theorem eM183 : eMt 183 = (yX12_act, cX12_act, 5, (some .int), []) := rfl
theorem eM184 : eMt 184 = (yX12_disk, cX12_disk, 6, (some .int), []) := rfl
theorem eM185 : eMt 185 = (yX12_isSegment, cX12_isSegment, 4, (some .boolean), []) := rfl
theorem eM186 : eMt 186 = (yX12_segment, cX12_segment, 8, (some .int), []) := rfl
theorem eM187 : eMt 187 = (yX12_octet, cX12_octet, 5, (some .int), []) := rfl
theorem eM188 : eMt 188 = (yX12_told, cX12_told, 4, (some .int), []) := rfl
theorem eM189 : eMt 189 = (yJ9_floorMod_7cf53, cJ9_floorMod_7cf53, 3, (some .int), []) := rfl
theorem eM191 : eMt 191 = (yJ7_rangeCheck_23922, cJ7_rangeCheck_23922, 3, none, []) := rfl
theorem eM192 : eMt 192 = (yJ7_fill_53178, cJ7_fill_53178, 4, none, []) := rfl
theorem eM193 : eMt 193 = (yJ7_fill_031fb, cJ7_fill_031fb, 4, none, []) := rfl
theorem eM194 : eMt 194 = (yJ7_fill_eb02e, cJ7_fill_eb02e, 5, none, []) := rfl
theorem eM195 : eMt 195 = (yJ7_copyOf_59c91, cJ7_copyOf_59c91, 3, (some (.array .int)), []) := rfl
theorem eM196 : eMt 196 = (yL_make, cL_make, 6, (some .int), [(0, 12, 15, 13)]) := rfl
theorem eM197 : eMt 197 = (yL_draft, cL_draft, 6, (some .int), [(0, 11, 14, 13)]) := rfl
theorem eM198 : eMt 198 = (yL_put, cL_put, 5, (some .int), [(0, 10, 13, 23), (0, 10, 17, 13), (0, 10, 21, 25)]) := rfl
theorem eM199 : eMt 199 = (yL_drop, cL_drop, 5, (some .int), [(0, 10, 13, 23), (0, 10, 17, 25)]) := rfl
theorem eM200 : eMt 200 = (yL_refresh, cL_refresh, 5, (some .int), [(0, 10, 13, 23), (0, 10, 17, 25)]) := rfl
theorem eM201 : eMt 201 = (yL_find, cL_find, 5, (some .int), [(0, 10, 13, 23), (0, 10, 17, 13), (0, 10, 21, 25)]) := rfl
theorem eM202 : eMt 202 = (yL_request, cL_request, 5, (some .int), [(0, 10, 13, 23)]) := rfl
theorem eM203 : eMt 203 = (yL_hit, cL_hit, 6, (some .int), [(0, 12, 15, 23)]) := rfl
theorem eM204 : eMt 204 = (yL_link, cL_link, 5, (some .int), [(0, 10, 13, 23)]) := rfl
theorem eM205 : eMt 205 = (yL_message, cL_message, 7, (some .int), [(0, 14, 17, 23)]) := rfl
theorem eM206 : eMt 206 = (yL_deliver, cL_deliver, 5, (some .int), [(0, 10, 13, 23)]) := rfl
theorem eM207 : eMt 207 = (yL_lose, cL_lose, 5, (some .int), [(0, 10, 13, 23)]) := rfl
theorem eM208 : eMt 208 = (yL_run, cL_run, 4, (some .int), [(0, 9, 12, 13)]) := rfl
theorem eM209 : eMt 209 = (yL_up, cL_up, 4, (some .int), [(0, 16, 19, 23)]) := rfl
theorem eM210 : eMt 210 = (yL_down, cL_down, 4, (some .int), [(0, 9, 12, 23)]) := rfl
theorem eM211 : eMt 211 = (yL_start, cL_start, 4, (some .int), [(0, 16, 19, 23), (0, 16, 22, 25)]) := rfl
theorem eM212 : eMt 212 = (yL_fail, cL_fail, 5, (some .int), [(0, 7, 10, 23), (0, 7, 14, 13)]) := rfl
theorem eM213 : eMt 213 = (yL_copy, cL_copy, 6, (some .int), [(0, 12, 15, 23)]) := rfl
theorem eM214 : eMt 214 = (yL_other, cL_other, 7, (some .int), [(0, 14, 17, 23)]) := rfl
theorem eM215 : eMt 215 = (yL_view, cL_view, 6, (some .int), [(0, 12, 15, 23)]) := rfl
theorem eM216 : eMt 216 = (yL_document, cL_document, 6, (some .int), [(0, 12, 15, 23)]) := rfl
theorem eM217 : eMt 217 = (yL_act, cL_act, 6, (some .int), [(0, 12, 15, 23)]) := rfl
theorem eM218 : eMt 218 = (yL_disk, cL_disk, 7, (some .int), [(0, 14, 17, 23)]) := rfl
theorem eM219 : eMt 219 = (yL_segment, cL_segment, 7, (some .int), [(0, 14, 17, 23)]) := rfl
theorem eM220 : eMt 220 = (yL_octet, cL_octet, 7, (some .int), [(0, 14, 17, 23)]) := rfl
theorem eM221 : eMt 221 = (yL_told, cL_told, 4, (some .int), [(0, 9, 12, 23)]) := rfl
theorem eM222 : eMt 222 = (yL_law, cL_law, 7, (some .boolean), []) := rfl
theorem vc_bipush_m2 : (Int8.ofInt (-2)).toInt32 = nI 4294967294 := by decide
theorem vc_bipush_10 : (Int8.ofInt (10)).toInt32 = nI 10 := by decide
theorem vc_bipush_100 : (Int8.ofInt (100)).toInt32 = nI 100 := by decide
theorem vc_bipush_104 : (Int8.ofInt (104)).toInt32 = nI 104 := by decide
theorem vc_bipush_11 : (Int8.ofInt (11)).toInt32 = nI 11 := by decide
theorem vc_bipush_12 : (Int8.ofInt (12)).toInt32 = nI 12 := by decide
theorem vc_bipush_14 : (Int8.ofInt (14)).toInt32 = nI 14 := by decide
theorem vc_bipush_15 : (Int8.ofInt (15)).toInt32 = nI 15 := by decide
theorem vc_bipush_16 : (Int8.ofInt (16)).toInt32 = nI 16 := by decide
theorem vc_bipush_20 : (Int8.ofInt (20)).toInt32 = nI 20 := by decide
theorem vc_bipush_21 : (Int8.ofInt (21)).toInt32 = nI 21 := by decide
theorem vc_bipush_24 : (Int8.ofInt (24)).toInt32 = nI 24 := by decide
theorem vc_bipush_30 : (Int8.ofInt (30)).toInt32 = nI 30 := by decide
theorem vc_bipush_31 : (Int8.ofInt (31)).toInt32 = nI 31 := by decide
theorem vc_bipush_32 : (Int8.ofInt (32)).toInt32 = nI 32 := by decide
theorem vc_bipush_34 : (Int8.ofInt (34)).toInt32 = nI 34 := by decide
theorem vc_bipush_36 : (Int8.ofInt (36)).toInt32 = nI 36 := by decide
theorem vc_bipush_40 : (Int8.ofInt (40)).toInt32 = nI 40 := by decide
theorem vc_bipush_42 : (Int8.ofInt (42)).toInt32 = nI 42 := by decide
theorem vc_bipush_43 : (Int8.ofInt (43)).toInt32 = nI 43 := by decide
theorem vc_bipush_45 : (Int8.ofInt (45)).toInt32 = nI 45 := by decide
theorem vc_bipush_48 : (Int8.ofInt (48)).toInt32 = nI 48 := by decide
theorem vc_bipush_6 : (Int8.ofInt (6)).toInt32 = nI 6 := by decide
theorem vc_bipush_60 : (Int8.ofInt (60)).toInt32 = nI 60 := by decide
theorem vc_bipush_61 : (Int8.ofInt (61)).toInt32 = nI 61 := by decide
theorem vc_bipush_63 : (Int8.ofInt (63)).toInt32 = nI 63 := by decide
theorem vc_bipush_64 : (Int8.ofInt (64)).toInt32 = nI 64 := by decide
theorem vc_bipush_65 : (Int8.ofInt (65)).toInt32 = nI 65 := by decide
theorem vc_bipush_67 : (Int8.ofInt (67)).toInt32 = nI 67 := by decide
theorem vc_bipush_7 : (Int8.ofInt (7)).toInt32 = nI 7 := by decide
theorem vc_bipush_8 : (Int8.ofInt (8)).toInt32 = nI 8 := by decide
theorem vc_bipush_9 : (Int8.ofInt (9)).toInt32 = nI 9 := by decide
theorem vc_bipush_97 : (Int8.ofInt (97)).toInt32 = nI 97 := by decide
theorem vc_bipush_99 : (Int8.ofInt (99)).toInt32 = nI 99 := by decide
theorem vc_iconst_m1 : Int32.ofInt (-1) = nI 4294967295 := by decide
theorem vc_iconst_0 : Int32.ofInt (0) = nI 0 := by decide
theorem vc_iconst_1 : Int32.ofInt (1) = nI 1 := by decide
theorem vc_iconst_2 : Int32.ofInt (2) = nI 2 := by decide
theorem vc_iconst_3 : Int32.ofInt (3) = nI 3 := by decide
theorem vc_iconst_4 : Int32.ofInt (4) = nI 4 := by decide
theorem vc_iconst_5 : Int32.ofInt (5) = nI 5 := by decide
theorem vc_ldc_271488 : ((271488) : Int32) = nI 271488 := by decide
theorem vc_ldc_60000 : ((60000) : Int32) = nI 60000 := by decide
theorem vc_ldc_73440 : ((73440) : Int32) = nI 73440 := by decide
theorem vc_inc_1 : Int32.ofInt (1) = nI 1 := by decide
theorem vc_inc_5 : Int32.ofInt (5) = nI 5 := by decide
theorem vc_sipush_1000 : (Int16.ofInt (1000)).toInt32 = nI 1000 := by decide
theorem vc_sipush_10000 : (Int16.ofInt (10000)).toInt32 = nI 10000 := by decide
theorem vc_sipush_12000 : (Int16.ofInt (12000)).toInt32 = nI 12000 := by decide
theorem vc_sipush_12928 : (Int16.ofInt (12928)).toInt32 = nI 12928 := by decide
theorem vc_sipush_14000 : (Int16.ofInt (14000)).toInt32 = nI 14000 := by decide
theorem vc_sipush_16000 : (Int16.ofInt (16000)).toInt32 = nI 16000 := by decide
theorem vc_sipush_2000 : (Int16.ofInt (2000)).toInt32 = nI 2000 := by decide
theorem vc_sipush_202 : (Int16.ofInt (202)).toInt32 = nI 202 := by decide
theorem vc_sipush_2100 : (Int16.ofInt (2100)).toInt32 = nI 2100 := by decide
theorem vc_sipush_2196 : (Int16.ofInt (2196)).toInt32 = nI 2196 := by decide
theorem vc_sipush_250 : (Int16.ofInt (250)).toInt32 = nI 250 := by decide
theorem vc_sipush_255 : (Int16.ofInt (255)).toInt32 = nI 255 := by decide
theorem vc_sipush_300 : (Int16.ofInt (300)).toInt32 = nI 300 := by decide
theorem vc_sipush_30000 : (Int16.ofInt (30000)).toInt32 = nI 30000 := by decide
theorem vc_sipush_400 : (Int16.ofInt (400)).toInt32 = nI 400 := by decide
theorem vc_sipush_4000 : (Int16.ofInt (4000)).toInt32 = nI 4000 := by decide
theorem vc_sipush_500 : (Int16.ofInt (500)).toInt32 = nI 500 := by decide
theorem vc_sipush_5000 : (Int16.ofInt (5000)).toInt32 = nI 5000 := by decide
theorem vc_sipush_512 : (Int16.ofInt (512)).toInt32 = nI 512 := by decide
theorem vc_sipush_6400 : (Int16.ofInt (6400)).toInt32 = nI 6400 := by decide
theorem vc_sipush_700 : (Int16.ofInt (700)).toInt32 = nI 700 := by decide
theorem pf_J7_copyOf_59c91 : plainFor yJ7_copyOf_59c91 = true := by decide +kernel
theorem pf_J7_fill_031fb : plainFor yJ7_fill_031fb = true := by decide +kernel
theorem pf_J7_fill_53178 : plainFor yJ7_fill_53178 = true := by decide +kernel
theorem pf_J7_fill_eb02e : plainFor yJ7_fill_eb02e = true := by decide +kernel
theorem pf_J7_rangeCheck_23922 : plainFor yJ7_rangeCheck_23922 = true := by decide +kernel
theorem pf_J9_floorMod_7cf53 : plainFor yJ9_floorMod_7cf53 = true := by decide +kernel
theorem pf_X0_actAt : plainFor yX0_actAt = true := plainFor_of_name rfl
theorem pf_X0_addDocument : plainFor yX0_addDocument = true := plainFor_of_name rfl
theorem pf_X0_addShown : plainFor yX0_addShown = true := plainFor_of_name rfl
theorem pf_X0_begin : plainFor yX0_begin = true := plainFor_of_name rfl
theorem pf_X0_clear : plainFor yX0_clear = true := plainFor_of_name rfl
theorem pf_X0_countDocuments : plainFor yX0_countDocuments = true := plainFor_of_name rfl
theorem pf_X0_documentsAt : plainFor yX0_documentsAt = true := plainFor_of_name rfl
theorem pf_X0_flush : plainFor yX0_flush = true := plainFor_of_name rfl
theorem pf_X0_init : plainFor yX0_init = true := plainFor_of_name rfl
theorem pf_X0_markDone : plainFor yX0_markDone = true := plainFor_of_name rfl
theorem pf_X0_requestOf : plainFor yX0_requestOf = true := plainFor_of_name rfl
theorem pf_X0_tell : plainFor yX0_tell = true := plainFor_of_name rfl
theorem pf_X10_ageRequests : plainFor yX10_ageRequests = true := plainFor_of_name rfl
theorem pf_X10_begin : plainFor yX10_begin = true := plainFor_of_name rfl
theorem pf_X10_firstPrimaryOf : plainFor yX10_firstPrimaryOf = true := plainFor_of_name rfl
theorem pf_X10_holds : plainFor yX10_holds = true := plainFor_of_name rfl
theorem pf_X10_init : plainFor yX10_init = true := plainFor_of_name rfl
theorem pf_X10_linkOf : plainFor yX10_linkOf = true := plainFor_of_name rfl
theorem pf_X10_maskOf : plainFor yX10_maskOf = true := plainFor_of_name rfl
theorem pf_X10_messageAt : plainFor yX10_messageAt = true := plainFor_of_name rfl
theorem pf_X10_onLinks : plainFor yX10_onLinks = true := plainFor_of_name rfl
theorem pf_X10_requestAt : plainFor yX10_requestAt = true := plainFor_of_name rfl
theorem pf_X10_send : plainFor yX10_send = true := plainFor_of_name rfl
theorem pf_X10_shardOf : plainFor yX10_shardOf = true := plainFor_of_name rfl
theorem pf_X10_skipClosed : plainFor yX10_skipClosed = true := plainFor_of_name rfl
theorem pf_X10_take : plainFor yX10_take = true := plainFor_of_name rfl
theorem pf_X11_act : plainFor yX11_act = true := plainFor_of_name rfl
theorem pf_X11_begin : plainFor yX11_begin = true := plainFor_of_name rfl
theorem pf_X11_come : plainFor yX11_come = true := plainFor_of_name rfl
theorem pf_X11_contextsInUse : plainFor yX11_contextsInUse = true := plainFor_of_name rfl
theorem pf_X11_copy : plainFor yX11_copy = true := plainFor_of_name rfl
theorem pf_X11_countRows : plainFor yX11_countRows = true := plainFor_of_name rfl
theorem pf_X11_deliver : plainFor yX11_deliver = true := plainFor_of_name rfl
theorem pf_X11_disk : plainFor yX11_disk = true := plainFor_of_name rfl
theorem pf_X11_document : plainFor yX11_document = true := plainFor_of_name rfl
theorem pf_X11_down : plainFor yX11_down = true := plainFor_of_name rfl
theorem pf_X11_draft : plainFor yX11_draft = true := plainFor_of_name rfl
theorem pf_X11_draftIsText : plainFor yX11_draftIsText = true := plainFor_of_name rfl
theorem pf_X11_drop : plainFor yX11_drop = true := plainFor_of_name rfl
theorem pf_X11_fail : plainFor yX11_fail = true := plainFor_of_name rfl
theorem pf_X11_fall : plainFor yX11_fall = true := plainFor_of_name rfl
theorem pf_X11_find : plainFor yX11_find = true := plainFor_of_name rfl
theorem pf_X11_hit : plainFor yX11_hit = true := plainFor_of_name rfl
theorem pf_X11_init : plainFor yX11_init = true := plainFor_of_name rfl
theorem pf_X11_link : plainFor yX11_link = true := plainFor_of_name rfl
theorem pf_X11_lose : plainFor yX11_lose = true := plainFor_of_name rfl
theorem pf_X11_make : plainFor yX11_make = true := plainFor_of_name rfl
theorem pf_X11_message : plainFor yX11_message = true := plainFor_of_name rfl
theorem pf_X11_octet : plainFor yX11_octet = true := plainFor_of_name rfl
theorem pf_X11_other : plainFor yX11_other = true := plainFor_of_name rfl
theorem pf_X11_put : plainFor yX11_put = true := plainFor_of_name rfl
theorem pf_X11_refresh : plainFor yX11_refresh = true := plainFor_of_name rfl
theorem pf_X11_replicaFor : plainFor yX11_replicaFor = true := plainFor_of_name rfl
theorem pf_X11_request : plainFor yX11_request = true := plainFor_of_name rfl
theorem pf_X11_requireDocument : plainFor yX11_requireDocument = true := plainFor_of_name rfl
theorem pf_X11_requireHost : plainFor yX11_requireHost = true := plainFor_of_name rfl
theorem pf_X11_requireLink : plainFor yX11_requireLink = true := plainFor_of_name rfl
theorem pf_X11_requireNode : plainFor yX11_requireNode = true := plainFor_of_name rfl
theorem pf_X11_requireReady : plainFor yX11_requireReady = true := plainFor_of_name rfl
theorem pf_X11_requireReplica : plainFor yX11_requireReplica = true := plainFor_of_name rfl
theorem pf_X11_requireSegment : plainFor yX11_requireSegment = true := plainFor_of_name rfl
theorem pf_X11_requireShard : plainFor yX11_requireShard = true := plainFor_of_name rfl
theorem pf_X11_rowsOf : plainFor yX11_rowsOf = true := plainFor_of_name rfl
theorem pf_X11_run : plainFor yX11_run = true := plainFor_of_name rfl
theorem pf_X11_segment : plainFor yX11_segment = true := plainFor_of_name rfl
theorem pf_X11_start : plainFor yX11_start = true := plainFor_of_name rfl
theorem pf_X11_tick : plainFor yX11_tick = true := plainFor_of_name rfl
theorem pf_X11_told : plainFor yX11_told = true := plainFor_of_name rfl
theorem pf_X11_up : plainFor yX11_up = true := plainFor_of_name rfl
theorem pf_X11_view : plainFor yX11_view = true := plainFor_of_name rfl
theorem pf_X12_act : plainFor yX12_act = true := plainFor_of_name rfl
theorem pf_X12_begin : plainFor yX12_begin = true := plainFor_of_name rfl
theorem pf_X12_beginCopy : plainFor yX12_beginCopy = true := plainFor_of_name rfl
theorem pf_X12_clause : plainFor yX12_clause = true := plainFor_of_name rfl
theorem pf_X12_come : plainFor yX12_come = true := plainFor_of_name rfl
theorem pf_X12_copy : plainFor yX12_copy = true := plainFor_of_name rfl
theorem pf_X12_copyOf : plainFor yX12_copyOf = true := plainFor_of_name rfl
theorem pf_X12_copyTick : plainFor yX12_copyTick = true := plainFor_of_name rfl
theorem pf_X12_deliver : plainFor yX12_deliver = true := plainFor_of_name rfl
theorem pf_X12_deliverOne : plainFor yX12_deliverOne = true := plainFor_of_name rfl
theorem pf_X12_disk : plainFor yX12_disk = true := plainFor_of_name rfl
theorem pf_X12_doTick : plainFor yX12_doTick = true := plainFor_of_name rfl
theorem pf_X12_document : plainFor yX12_document = true := plainFor_of_name rfl
theorem pf_X12_documentAt : plainFor yX12_documentAt = true := plainFor_of_name rfl
theorem pf_X12_down : plainFor yX12_down = true := plainFor_of_name rfl
theorem pf_X12_draft : plainFor yX12_draft = true := plainFor_of_name rfl
theorem pf_X12_drop : plainFor yX12_drop = true := plainFor_of_name rfl
theorem pf_X12_fail : plainFor yX12_fail = true := plainFor_of_name rfl
theorem pf_X12_fall : plainFor yX12_fall = true := plainFor_of_name rfl
theorem pf_X12_fillHalf : plainFor yX12_fillHalf = true := plainFor_of_name rfl
theorem pf_X12_find : plainFor yX12_find = true := plainFor_of_name rfl
theorem pf_X12_firstDisk : plainFor yX12_firstDisk = true := plainFor_of_name rfl
theorem pf_X12_h1 : plainFor yX12_h1 = true := plainFor_of_name rfl
theorem pf_X12_h2 : plainFor yX12_h2 = true := plainFor_of_name rfl
theorem pf_X12_halfCopy : plainFor yX12_halfCopy = true := plainFor_of_name rfl
theorem pf_X12_handle : plainFor yX12_handle = true := plainFor_of_name rfl
theorem pf_X12_handleOther : plainFor yX12_handleOther = true := plainFor_of_name rfl
theorem pf_X12_hasCopy : plainFor yX12_hasCopy = true := plainFor_of_name rfl
theorem pf_X12_heard : plainFor yX12_heard = true := plainFor_of_name rfl
theorem pf_X12_heardOfShard : plainFor yX12_heardOfShard = true := plainFor_of_name rfl
theorem pf_X12_hit : plainFor yX12_hit = true := plainFor_of_name rfl
theorem pf_X12_init : plainFor yX12_init = true := plainFor_of_name rfl
theorem pf_X12_isCopy : plainFor yX12_isCopy = true := plainFor_of_name rfl
theorem pf_X12_isLetter : plainFor yX12_isLetter = true := plainFor_of_name rfl
theorem pf_X12_isNode : plainFor yX12_isNode = true := plainFor_of_name rfl
theorem pf_X12_isOther : plainFor yX12_isOther = true := plainFor_of_name rfl
theorem pf_X12_isPlace : plainFor yX12_isPlace = true := plainFor_of_name rfl
theorem pf_X12_isRow : plainFor yX12_isRow = true := plainFor_of_name rfl
theorem pf_X12_isSegment : plainFor yX12_isSegment = true := plainFor_of_name rfl
theorem pf_X12_isText : plainFor yX12_isText = true := plainFor_of_name rfl
theorem pf_X12_keeperTick : plainFor yX12_keeperTick = true := plainFor_of_name rfl
theorem pf_X12_link : plainFor yX12_link = true := plainFor_of_name rfl
theorem pf_X12_liveRequest : plainFor yX12_liveRequest = true := plainFor_of_name rfl
theorem pf_X12_lose : plainFor yX12_lose = true := plainFor_of_name rfl
theorem pf_X12_make : plainFor yX12_make = true := plainFor_of_name rfl
theorem pf_X12_message : plainFor yX12_message = true := plainFor_of_name rfl
theorem pf_X12_nodeAt : plainFor yX12_nodeAt = true := plainFor_of_name rfl
theorem pf_X12_nodeTick : plainFor yX12_nodeTick = true := plainFor_of_name rfl
theorem pf_X12_octet : plainFor yX12_octet = true := plainFor_of_name rfl
theorem pf_X12_other : plainFor yX12_other = true := plainFor_of_name rfl
theorem pf_X12_primaryTick : plainFor yX12_primaryTick = true := plainFor_of_name rfl
theorem pf_X12_put : plainFor yX12_put = true := plainFor_of_name rfl
theorem pf_X12_question : plainFor yX12_question = true := plainFor_of_name rfl
theorem pf_X12_refresh : plainFor yX12_refresh = true := plainFor_of_name rfl
theorem pf_X12_request : plainFor yX12_request = true := plainFor_of_name rfl
theorem pf_X12_run : plainFor yX12_run = true := plainFor_of_name rfl
theorem pf_X12_segment : plainFor yX12_segment = true := plainFor_of_name rfl
theorem pf_X12_send : plainFor yX12_send = true := plainFor_of_name rfl
theorem pf_X12_sendSimple : plainFor yX12_sendSimple = true := plainFor_of_name rfl
theorem pf_X12_setView : plainFor yX12_setView = true := plainFor_of_name rfl
theorem pf_X12_sign : plainFor yX12_sign = true := plainFor_of_name rfl
theorem pf_X12_skipBlanks : plainFor yX12_skipBlanks = true := plainFor_of_name rfl
theorem pf_X12_start : plainFor yX12_start = true := plainFor_of_name rfl
theorem pf_X12_takeDraft : plainFor yX12_takeDraft = true := plainFor_of_name rfl
theorem pf_X12_takeFirst : plainFor yX12_takeFirst = true := plainFor_of_name rfl
theorem pf_X12_thrown : plainFor yX12_thrown = true := plainFor_of_name rfl
theorem pf_X12_tick : plainFor yX12_tick = true := plainFor_of_name rfl
theorem pf_X12_told : plainFor yX12_told = true := plainFor_of_name rfl
theorem pf_X12_u1 : plainFor yX12_u1 = true := plainFor_of_name rfl
theorem pf_X12_up : plainFor yX12_up = true := plainFor_of_name rfl
theorem pf_X12_view : plainFor yX12_view = true := plainFor_of_name rfl
theorem pf_X1_addOne : plainFor yX1_addOne = true := plainFor_of_name rfl
theorem pf_X1_addTwo : plainFor yX1_addTwo = true := plainFor_of_name rfl
theorem pf_X1_after : plainFor yX1_after = true := plainFor_of_name rfl
theorem pf_X1_begin : plainFor yX1_begin = true := plainFor_of_name rfl
theorem pf_X1_clearImage : plainFor yX1_clearImage = true := plainFor_of_name rfl
theorem pf_X1_close : plainFor yX1_close = true := plainFor_of_name rfl
theorem pf_X1_countFrom : plainFor yX1_countFrom = true := plainFor_of_name rfl
theorem pf_X1_firstBlockOf : plainFor yX1_firstBlockOf = true := plainFor_of_name rfl
theorem pf_X1_init : plainFor yX1_init = true := plainFor_of_name rfl
theorem pf_X1_isSo : plainFor yX1_isSo = true := plainFor_of_name rfl
theorem pf_X1_open : plainFor yX1_open = true := plainFor_of_name rfl
theorem pf_X1_swap : plainFor yX1_swap = true := plainFor_of_name rfl
theorem pf_X1_writeBlock : plainFor yX1_writeBlock = true := plainFor_of_name rfl
theorem pf_X2_begin : plainFor yX2_begin = true := plainFor_of_name rfl
theorem pf_X2_init : plainFor yX2_init = true := plainFor_of_name rfl
theorem pf_X3_addView : plainFor yX3_addView = true := plainFor_of_name rfl
theorem pf_X3_begin : plainFor yX3_begin = true := plainFor_of_name rfl
theorem pf_X3_flush : plainFor yX3_flush = true := plainFor_of_name rfl
theorem pf_X3_hearAll : plainFor yX3_hearAll = true := plainFor_of_name rfl
theorem pf_X3_init : plainFor yX3_init = true := plainFor_of_name rfl
theorem pf_X3_isAlive : plainFor yX3_isAlive = true := plainFor_of_name rfl
theorem pf_X3_isInMask : plainFor yX3_isInMask = true := plainFor_of_name rfl
theorem pf_X3_onSign : plainFor yX3_onSign = true := plainFor_of_name rfl
theorem pf_X3_watch : plainFor yX3_watch = true := plainFor_of_name rfl
theorem pf_X4_init : plainFor yX4_init = true := plainFor_of_name rfl
theorem pf_X4_with : plainFor yX4_with = true := plainFor_of_name rfl
theorem pf_X5_beat : plainFor yX5_beat = true := plainFor_of_name rfl
theorem pf_X5_begin : plainFor yX5_begin = true := plainFor_of_name rfl
theorem pf_X5_closeContexts : plainFor yX5_closeContexts = true := plainFor_of_name rfl
theorem pf_X5_closeOldContexts : plainFor yX5_closeOldContexts = true := plainFor_of_name rfl
theorem pf_X5_init : plainFor yX5_init = true := plainFor_of_name rfl
theorem pf_X5_replicaOf : plainFor yX5_replicaOf = true := plainFor_of_name rfl
theorem pf_X5_usedContexts : plainFor yX5_usedContexts = true := plainFor_of_name rfl
theorem pf_X6_fault : plainFor yX6_fault = true := plainFor_of_name rfl
theorem pf_X6_init : plainFor yX6_init = true := plainFor_of_name rfl
theorem pf_X6_read : plainFor yX6_read = true := plainFor_of_name rfl
theorem pf_X7_begin : plainFor yX7_begin = true := plainFor_of_name rfl
theorem pf_X7_init : plainFor yX7_init = true := plainFor_of_name rfl
theorem pf_X7_isOther : plainFor yX7_isOther = true := plainFor_of_name rfl
theorem pf_X7_leads : plainFor yX7_leads = true := plainFor_of_name rfl
theorem pf_X7_pulse : plainFor yX7_pulse = true := plainFor_of_name rfl
theorem pf_X7_setOther : plainFor yX7_setOther = true := plainFor_of_name rfl
theorem pf_X7_tend : plainFor yX7_tend = true := plainFor_of_name rfl
theorem pf_X8_countWords : plainFor yX8_countWords = true := plainFor_of_name rfl
theorem pf_X8_init : plainFor yX8_init = true := plainFor_of_name rfl
theorem pf_X9_init : plainFor yX9_init = true := plainFor_of_name rfl
theorem fz_0_0 : 0 < kSz 0 := by decide
theorem fz_0_1 : 1 < kSz 0 := by decide
theorem fz_0_2 : 2 < kSz 0 := by decide
theorem fz_0_3 : 3 < kSz 0 := by decide
theorem fz_0_4 : 4 < kSz 0 := by decide
theorem fz_0_5 : 5 < kSz 0 := by decide
theorem fz_0_6 : 6 < kSz 0 := by decide
theorem fz_0_7 : 7 < kSz 0 := by decide
theorem fz_0_8 : 8 < kSz 0 := by decide
theorem fz_0_9 : 9 < kSz 0 := by decide
theorem fz_0_10 : 10 < kSz 0 := by decide
theorem fz_0_11 : 11 < kSz 0 := by decide
theorem fz_0_12 : 12 < kSz 0 := by decide
theorem fz_1_0 : 0 < kSz 1 := by decide
theorem fz_1_1 : 1 < kSz 1 := by decide
theorem fz_1_2 : 2 < kSz 1 := by decide
theorem fz_1_3 : 3 < kSz 1 := by decide
theorem fz_1_4 : 4 < kSz 1 := by decide
theorem fz_1_5 : 5 < kSz 1 := by decide
theorem fz_1_6 : 6 < kSz 1 := by decide
theorem fz_1_7 : 7 < kSz 1 := by decide
theorem fz_2_0 : 0 < kSz 2 := by decide
theorem fz_2_1 : 1 < kSz 2 := by decide
theorem fz_2_2 : 2 < kSz 2 := by decide
theorem fz_2_3 : 3 < kSz 2 := by decide
theorem fz_2_4 : 4 < kSz 2 := by decide
theorem fz_2_5 : 5 < kSz 2 := by decide
theorem fz_2_6 : 6 < kSz 2 := by decide
theorem fz_2_7 : 7 < kSz 2 := by decide
theorem fz_2_8 : 8 < kSz 2 := by decide
theorem fz_3_0 : 0 < kSz 3 := by decide
theorem fz_3_1 : 1 < kSz 3 := by decide
theorem fz_3_2 : 2 < kSz 3 := by decide
theorem fz_3_3 : 3 < kSz 3 := by decide
theorem fz_3_4 : 4 < kSz 3 := by decide
theorem fz_4_0 : 0 < kSz 4 := by decide
theorem fz_4_1 : 1 < kSz 4 := by decide
theorem fz_4_2 : 2 < kSz 4 := by decide
theorem fz_4_3 : 3 < kSz 4 := by decide
theorem fz_4_4 : 4 < kSz 4 := by decide
theorem fz_5_0 : 0 < kSz 5 := by decide
theorem fz_5_1 : 1 < kSz 5 := by decide
theorem fz_5_2 : 2 < kSz 5 := by decide
theorem fz_5_3 : 3 < kSz 5 := by decide
theorem fz_5_4 : 4 < kSz 5 := by decide
theorem fz_5_5 : 5 < kSz 5 := by decide
theorem fz_5_6 : 6 < kSz 5 := by decide
theorem fz_6_1 : 1 < kSz 6 := by decide
theorem fz_6_2 : 2 < kSz 6 := by decide
theorem fz_6_3 : 3 < kSz 6 := by decide
theorem fz_7_0 : 0 < kSz 7 := by decide
theorem fz_7_1 : 1 < kSz 7 := by decide
theorem fz_7_2 : 2 < kSz 7 := by decide
theorem fz_7_3 : 3 < kSz 7 := by decide
theorem fz_7_4 : 4 < kSz 7 := by decide
theorem fz_7_5 : 5 < kSz 7 := by decide
theorem fz_7_6 : 6 < kSz 7 := by decide
theorem fz_7_7 : 7 < kSz 7 := by decide
theorem fz_7_8 : 8 < kSz 7 := by decide
theorem fz_7_9 : 9 < kSz 7 := by decide
theorem fz_7_10 : 10 < kSz 7 := by decide
theorem fz_7_11 : 11 < kSz 7 := by decide
theorem fz_7_12 : 12 < kSz 7 := by decide
theorem fz_7_13 : 13 < kSz 7 := by decide
theorem fz_7_14 : 14 < kSz 7 := by decide
theorem fz_8_0 : 0 < kSz 8 := by decide
theorem fz_8_1 : 1 < kSz 8 := by decide
theorem fz_8_2 : 2 < kSz 8 := by decide
theorem fz_8_3 : 3 < kSz 8 := by decide
theorem fz_8_4 : 4 < kSz 8 := by decide
theorem fz_8_5 : 5 < kSz 8 := by decide
theorem fz_8_6 : 6 < kSz 8 := by decide
theorem fz_8_7 : 7 < kSz 8 := by decide
theorem fz_8_8 : 8 < kSz 8 := by decide
theorem fz_8_9 : 9 < kSz 8 := by decide
theorem fz_8_10 : 10 < kSz 8 := by decide
theorem fz_8_11 : 11 < kSz 8 := by decide
theorem fz_8_12 : 12 < kSz 8 := by decide
theorem fz_8_15 : 15 < kSz 8 := by decide
theorem fz_9_0 : 0 < kSz 9 := by decide
theorem fz_9_1 : 1 < kSz 9 := by decide
theorem fz_9_2 : 2 < kSz 9 := by decide
theorem fz_9_3 : 3 < kSz 9 := by decide
theorem fz_9_4 : 4 < kSz 9 := by decide
theorem fz_10_0 : 0 < kSz 10 := by decide
theorem fz_10_1 : 1 < kSz 10 := by decide
theorem fz_10_2 : 2 < kSz 10 := by decide
theorem fz_10_3 : 3 < kSz 10 := by decide
theorem fz_10_4 : 4 < kSz 10 := by decide
theorem fz_10_5 : 5 < kSz 10 := by decide
theorem fz_10_6 : 6 < kSz 10 := by decide
theorem fz_10_7 : 7 < kSz 10 := by decide
theorem fz_10_8 : 8 < kSz 10 := by decide
theorem fz_10_10 : 10 < kSz 10 := by decide
theorem fz_10_11 : 11 < kSz 10 := by decide
theorem fz_10_12 : 12 < kSz 10 := by decide
theorem fz_10_13 : 13 < kSz 10 := by decide
theorem fz_10_14 : 14 < kSz 10 := by decide
theorem fz_10_15 : 15 < kSz 10 := by decide
theorem fz_10_16 : 16 < kSz 10 := by decide
theorem fz_10_17 : 17 < kSz 10 := by decide
theorem fz_11_0 : 0 < kSz 11 := by decide
theorem fz_11_1 : 1 < kSz 11 := by decide
theorem fz_11_2 : 2 < kSz 11 := by decide
theorem fz_11_3 : 3 < kSz 11 := by decide
theorem fz_11_4 : 4 < kSz 11 := by decide
theorem fz_11_5 : 5 < kSz 11 := by decide
theorem fz_11_6 : 6 < kSz 11 := by decide
theorem fz_12_0 : 0 < kSz 12 := by decide
theorem fz_12_1 : 1 < kSz 12 := by decide
theorem fz_12_2 : 2 < kSz 12 := by decide
theorem fz_12_3 : 3 < kSz 12 := by decide
theorem fz_12_4 : 4 < kSz 12 := by decide
theorem fz_12_5 : 5 < kSz 12 := by decide
theorem fz_12_6 : 6 < kSz 12 := by decide
theorem fz_12_7 : 7 < kSz 12 := by decide
theorem fz_12_8 : 8 < kSz 12 := by decide
theorem fz_12_9 : 9 < kSz 12 := by decide
theorem fz_12_10 : 10 < kSz 12 := by decide
theorem fz_12_11 : 11 < kSz 12 := by decide
theorem fz_12_12 : 12 < kSz 12 := by decide
theorem fz_12_13 : 13 < kSz 12 := by decide
theorem fz_12_14 : 14 < kSz 12 := by decide
theorem fz_12_15 : 15 < kSz 12 := by decide
theorem fz_12_16 : 16 < kSz 12 := by decide
theorem fz_12_17 : 17 < kSz 12 := by decide
theorem fz_12_18 : 18 < kSz 12 := by decide
theorem fz_12_19 : 19 < kSz 12 := by decide
theorem fz_12_20 : 20 < kSz 12 := by decide
theorem fz_12_21 : 21 < kSz 12 := by decide
theorem fz_12_22 : 22 < kSz 12 := by decide
theorem fz_12_23 : 23 < kSz 12 := by decide
theorem fz_12_24 : 24 < kSz 12 := by decide
theorem fz_12_25 : 25 < kSz 12 := by decide
theorem fz_12_26 : 26 < kSz 12 := by decide
theorem fz_12_27 : 27 < kSz 12 := by decide
theorem fz_12_28 : 28 < kSz 12 := by decide
theorem fz_12_29 : 29 < kSz 12 := by decide
theorem fz_12_30 : 30 < kSz 12 := by decide
theorem fz_12_31 : 31 < kSz 12 := by decide
theorem fz_12_32 : 32 < kSz 12 := by decide
theorem fz_12_33 : 33 < kSz 12 := by decide
theorem fz_12_34 : 34 < kSz 12 := by decide
theorem fz_12_35 : 35 < kSz 12 := by decide
theorem fz_12_36 : 36 < kSz 12 := by decide
theorem fz_12_37 : 37 < kSz 12 := by decide
theorem fz_12_38 : 38 < kSz 12 := by decide
theorem fz_12_39 : 39 < kSz 12 := by decide
theorem fz_12_41 : 41 < kSz 12 := by decide
theorem fz_12_42 : 42 < kSz 12 := by decide
theorem fz_12_43 : 43 < kSz 12 := by decide
theorem fz_12_44 : 44 < kSz 12 := by decide
theorem fz_12_45 : 45 < kSz 12 := by decide
theorem fz_12_46 : 46 < kSz 12 := by decide
theorem fz_12_47 : 47 < kSz 12 := by decide
theorem fz_12_48 : 48 < kSz 12 := by decide
theorem fz_12_49 : 49 < kSz 12 := by decide
theorem fz_12_50 : 50 < kSz 12 := by decide
theorem fz_12_51 : 51 < kSz 12 := by decide
theorem fz_12_52 : 52 < kSz 12 := by decide
theorem fz_12_53 : 53 < kSz 12 := by decide
theorem fz_12_54 : 54 < kSz 12 := by decide
theorem fz_12_55 : 55 < kSz 12 := by decide
theorem fz_12_56 : 56 < kSz 12 := by decide
theorem fz_12_57 : 57 < kSz 12 := by decide
theorem fz_12_58 : 58 < kSz 12 := by decide
theorem fz_12_59 : 59 < kSz 12 := by decide
theorem fz_12_60 : 60 < kSz 12 := by decide
theorem fz_12_61 : 61 < kSz 12 := by decide
theorem fz_12_62 : 62 < kSz 12 := by decide
theorem fz_12_63 : 63 < kSz 12 := by decide
theorem fz_12_64 : 64 < kSz 12 := by decide
theorem fz_12_65 : 65 < kSz 12 := by decide
theorem fz_12_66 : 66 < kSz 12 := by decide
theorem fz_12_67 : 67 < kSz 12 := by decide
theorem fz_12_68 : 68 < kSz 12 := by decide
theorem fz_12_69 : 69 < kSz 12 := by decide
theorem fz_12_70 : 70 < kSz 12 := by decide
theorem fz_12_71 : 71 < kSz 12 := by decide
theorem fz_12_72 : 72 < kSz 12 := by decide
theorem fz_12_73 : 73 < kSz 12 := by decide
theorem fz_12_74 : 74 < kSz 12 := by decide
theorem fz_12_75 : 75 < kSz 12 := by decide
theorem fz_12_76 : 76 < kSz 12 := by decide
theorem fz_12_77 : 77 < kSz 12 := by decide
theorem fz_12_78 : 78 < kSz 12 := by decide
theorem fz_12_79 : 79 < kSz 12 := by decide
theorem fz_12_80 : 80 < kSz 12 := by decide
theorem fz_12_81 : 81 < kSz 12 := by decide
theorem fz_12_82 : 82 < kSz 12 := by decide
theorem fz_12_83 : 83 < kSz 12 := by decide
theorem fz_12_84 : 84 < kSz 12 := by decide
theorem fz_12_85 : 85 < kSz 12 := by decide
theorem fz_12_86 : 86 < kSz 12 := by decide
theorem fz_12_87 : 87 < kSz 12 := by decide
theorem fz_12_88 : 88 < kSz 12 := by decide
theorem fz_12_89 : 89 < kSz 12 := by decide
theorem fz_12_90 : 90 < kSz 12 := by decide
theorem fz_12_92 : 92 < kSz 12 := by decide
theorem fz_12_94 : 94 < kSz 12 := by decide
theorem fz_12_95 : 95 < kSz 12 := by decide
theorem fz_12_96 : 96 < kSz 12 := by decide
theorem fz_12_100 : 100 < kSz 12 := by decide
theorem fz_12_101 : 101 < kSz 12 := by decide
theorem fz_12_102 : 102 < kSz 12 := by decide
theorem fz_12_103 : 103 < kSz 12 := by decide
theorem fz_12_104 : 104 < kSz 12 := by decide
theorem fz_12_105 : 105 < kSz 12 := by decide
theorem fz_12_106 : 106 < kSz 12 := by decide
theorem fz_12_107 : 107 < kSz 12 := by decide
theorem fz_12_108 : 108 < kSz 12 := by decide
theorem fz_12_109 : 109 < kSz 12 := by decide
theorem fz_12_110 : 110 < kSz 12 := by decide
theorem fz_12_111 : 111 < kSz 12 := by decide
theorem fz_12_112 : 112 < kSz 12 := by decide
theorem fz_12_114 : 114 < kSz 12 := by decide
theorem fz_12_115 : 115 < kSz 12 := by decide
theorem fz_12_117 : 117 < kSz 12 := by decide
theorem fz_12_119 : 119 < kSz 12 := by decide
theorem fz_12_120 : 120 < kSz 12 := by decide
theorem fz_12_121 : 121 < kSz 12 := by decide
theorem fz_12_122 : 122 < kSz 12 := by decide
theorem fz_12_123 : 123 < kSz 12 := by decide
