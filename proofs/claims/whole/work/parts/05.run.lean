/-! THE METHODS BY NUMBER, and what it is that one runs. -/
def progL0 : List (List (Nat × qM)) := [mX0_init, mX0_bookAll, mX0_clearFor, mX0_putInOrder, mX0_bookBuy, mX0_bookSell, mX0_replaceByLotsLeft, mX0_replace, mX0_noteIfOpen, mX0_dropClosed, mX0_bookSplit, mX0_gainOf, mX0_deferredOf, mX0_allGains, mX0_allDeferred, mX1_init, mX1_inSome, mX1_inAll, mX1_leftAtMost, mX1_bestToAsk, mX2_init, mX2_keep, mX2_giveBack, mX3_init, mX4_init, mX4_addBought, mX4_part, mX4_remove, mX4_nextBy, mX4_allShares]
def progL1 : List (List (Nat × qM)) := [mX4_allCost, mX4_longestChain, mX5_init, mX5_add, mX5_gainsFrom, mX5_movedFrom, mX6_init, mX6_readText, mX6_readLine, mX6_readWindow, mX6_readTrade, mX6_readUnsure, mX6_readGain, mX6_readWhole, mX6_faultHere, mX6_sortByWord, mX6_ruleByWord, mX6_isWord, mX6_step, mX6_stepOverDigits, mX6_isLetter, mX6_isDigit, mX7_init, mX7_forgetAll, mX7_isUnsure, mX7_hasGain, mX7_addUnsure, mX7_addGain, mX8_init, mX8_has]
def progL2 : List (List (Nat × qM)) := [mX8_isSell, mX8_splits, mX8_latestDay, mX8_copyFrom, mX8_add, mX8_remove, mX9_init, mX9_feed, mX9_putOnTape, mX9_ledger, mX9_refuseText, mX9_takeOverTold, mX9_takeOverTrialBook, mX9_fault, mX9_where, mX9_trade, mX9_booked, mX9_held, mX9_cost, mX9_lots, mX9_lot, mX9_lotCost, mX9_mean, mX9_commonDivisor, mX9_worth, mX9_chain, mX9_gain, mX9_deferred, mX9_pieces, mX9_piece]
def progL3 : List (List (Nat × qM)) := [mX9_pieceSum, mX9_gains, mX9_deferrals, mX9_lost, mX9_open, mX9_byRule, mX9_leastRule, mX9_byWindow, mX9_trialGains, mX9_until, mX9_heldAt, mX9_later, mX9_fits, mX9_fitAt, mX9_could, mX9_surely, mX9_ask, mX9_askLeaves, mX9_judge, mX9_findFits, mX9_isFit, mX9_firstWrongGain, mX9_drawnGains, mX9_drawnHeld, mX9_bookDrawn, mX9_nextDraw, mX9_buy, mX9_sell, mX9_split, mX9_bookOneMore]
def progL4 : List (List (Nat × qM)) := [mX9_strike, mX9_rule, mX9_actByTrial, mX9_undo, mX9_image, mX9_back, mX9_led, mX9_size, mX9_trouble, mX9_refuse, mX9_hasPaper, mX9_hasLot, mX9_pieceRow, mX9_isWithin, mX10_init, mX10_stands, mX11_init, mX11_thrown, mX11_refused, mX11_denied, mX11_good, mX11_granted, mX11_in, mX11_bit, mX11_common, mX11_fraction, mX11_of, mX11_adds, mX11_splitsIn, mX11_byteAt]
def progL5 : List (List (Nat × qM)) := [mX11_isLetter, mX11_isDigit, mX11_packed, mX11_goesOn, mX11_over, mX11_flaw, mX11_isWord, mX11_eatsSemicolon, mX11_needs, mX11_wholeAt, mX11_readWhole, mX11_readPart, mX11_lineBegins, mX11_toldAt, mX11_isOf, mX11_readAll, mX11_readLine, mX11_readLedger, mX11_isFull, mX11_readTrade, mX11_readRule, mX11_readSplit, mX11_readUnsure, mX11_readGain, mX11_feed, mX11_ledger, mX11_fault, mX11_where, mX11_copies, mX11_works]
def progL6 : List (List (Nat × qM)) := [mX11_orders, mX11_isAhead, mX11_moves, mX11_lotEnd, mX11_drops, mX11_parts, mX11_sharesOf, mX11_costOf, mX11_nextLot, mX11_sold, mX11_replaces, mX11_books, mX11_booksPaper, mX11_booksOne, mX11_buys, mX11_sells, mX11_replacedByElder, mX11_splits, mX11_booksNow, mX11_gainOf, mX11_ledOf, mX11_allGains, mX11_isPaper, mX11_isTrade, mX11_isSell, mX11_trade, mX11_booked, mX11_held, mX11_cost, mX11_lots]
def progL7 : List (List (Nat × qM)) := [mX11_lotAt, mX11_lot, mX11_lotCost, mX11_mean, mX11_none, mX11_sum, mX11_worth, mX11_chain, mX11_gain, mX11_deferred, mX11_pieces, mX11_pieceAt, mX11_piece, mX11_pieceSum, mX11_gains, mX11_deferrals, mX11_lost, mX11_open, mX11_booksByRule, mX11_byRule, mX11_leastRule, mX11_byWindow, mX11_until, mX11_heldAt, mX11_later, mX11_booksSet, mX11_wrongGain, mX11_fits, mX11_fitting, mX11_fits_]
def progL8 : List (List (Nat × qM)) := [mX11_fitAt, mX11_could, mX11_surely, mX11_asks, mX11_ask, mX11_askLeaves, mX11_judge, mX11_draws, mX11_lastDay, mX11_booksDrawn, mX11_refusesDraw, mX11_drawnGains, mX11_drawnHeld, mX11_takes, mX11_refusesTrade, mX11_isDeal, mX11_tells, mX11_buy, mX11_sell, mX11_split, mX11_strike, mX11_rule, mX11_undo, mX11_image, mX11_back, mX11_led, mX11_size, mX11_trouble, mJ9_max_7cf53, mJ9_min_7cf53]
def prog (y : Nat) : List (Nat × qM) := (match y / 30 with
  | 0 => progL0
  | 1 => progL1
  | 2 => progL2
  | 3 => progL3
  | 4 => progL4
  | 5 => progL5
  | 6 => progL6
  | 7 => progL7
  | 8 => progL8
  | _ => []).getD (y % 30) []
def mLocL : List Nat := [2, 8, 3, 5, 10, 12, 5, 7, 2, 3, 7, 2, 2, 1, 1, 1, 3, 3, 4, 4, 2, 4, 2, 1, 2, 6, 6, 4, 6, 3, 4, 3, 1, 8, 6, 6, 1, 5, 3, 1, 8, 2, 3, 3, 2, 1, 1, 3, 1, 1, 1, 1, 1, 1, 3, 3, 3, 3, 2, 2, 2, 3, 3, 3, 7, 3, 2, 6, 3, 2, 3, 2, 2, 1, 1, 3, 2, 2, 2, 2, 5, 3, 9, 11, 3, 3, 2, 2, 2, 5, 5, 1, 1, 1, 1, 3, 9, 2, 2, 2, 3, 3, 1, 2, 1, 1, 1, 2, 1, 3, 4, 2, 3, 4, 10, 1, 5, 6, 5, 7, 2, 4, 2, 1, 1, 2, 4, 2, 1, 2, 2, 3, 3, 3, 1, 4, 1, 1, 2, 2, 2, 1, 3, 2, 10, 6, 3, 8, 3, 2, 1, 1, 4, 3, 1, 2, 2, 2, 2, 3, 4, 4, 2, 3, 4, 2, 1, 2, 1, 7, 2, 5, 3, 4, 8, 2, 1, 1, 3, 1, 4, 5, 3, 2, 4, 6, 4, 5, 7, 6, 7, 4, 6, 4, 7, 5, 4, 9, 1, 5, 5, 4, 2, 2, 2, 3, 2, 2, 2, 2, 3, 5, 4, 4, 2, 3, 3, 4, 2, 2, 2, 3, 5, 5, 1, 4, 1, 3, 3, 3, 6, 2, 2, 3, 3, 3, 2, 2, 5, 1, 3, 1, 1, 4, 1, 1, 1, 2, 3, 9, 4, 4, 5, 2, 4, 3, 7, 6, 7, 6, 3, 4, 2, 2, 3, 4, 2, 1, 2, 2]
def mLoc (y : Nat) : Nat := mLocL.getD y 0
def budL : List (Nat × Nat × Nat) := [(0, 143, 7680), (15, 1, 16), (20, 113, 2448), (24, 41, 280), (32, 10, 6660), (52, 11, 172), (58, 6, 144), (66, 466, 19883), (126, 1, 8), (134, 5, 165), (136, 26, 10648), (175, 6, 174)]
def bud (y : Nat) : Nat × Nat := (budL.lookup y).getD (0, 0)
def Run : Nat → qR
  | 0 => fun _ _ _ _ _ => False
  | d + 1 => fun y args A S K => ∀ J : qJ, Cl (prog y) (Run d) K (A.2.2.1 + (bud y).1, A.2.2.2 + (bud y).2) J → J 0 (ini (mLoc y) args) [] A S
theorem Run.i {d y : Nat} {args : List Value} {A : qA} {S : qS} {K : qK} {C : List (Nat × qM)} (hC : prog y = C) {ls : qL} (hl : ini (mLoc y) args = ls) {cap : Nat × Nat} (hc : (A.2.2.1 + (bud y).1, A.2.2.2 + (bud y).2) = cap) (h : ∀ J : qJ, Cl C (Run d) K cap J → J 0 ls [] A S) : Run (d + 1) y args A S K := by
  subst hC; subst hl; subst hc
  exact h
