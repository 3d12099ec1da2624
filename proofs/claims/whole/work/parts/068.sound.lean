/-! WHAT RUNS IN THE PURE LAYER RUNS ON THE MACHINE -/
def rokY (y : Nat) : Launch → Room → Nat → Heap → va_G → (Nat → ClassId) → (Nat → Nat) → (Nat → Nat) → qR → Prop := bif Nat.beq (minD y) 5 then RnOk5 else RnOk
def OkY (y : Nat) : Prop := y ≠ ledId → ∀ q ∈ prog y, Okr (yN y).cls (cB y) (mLoc y) ((yN y).name = "<init>") (rokY y) (rT y) (bud y) q.1 q.2
theorem okr_at {own : String} {cc : ByteArray} {nL : Nat} {hi : Prop} {rok : Launch → Room → Nat → Heap → va_G → (Nat → ClassId) → (Nat → Nat) → (Nat → Nat) → qR → Prop} {ret : Option FieldType} {mb : Nat × Nat} : ∀ {C : List (Nat × qM)}, (∀ q ∈ C, Okr own cc nL hi rok ret mb q.1 q.2) → ∀ pc, Okr own cc nL hi rok ret mb pc (cAt C pc)
  | [], _, pc => Okn.r ok_stuck
  | (p, s) :: t, h, pc => by
    unfold cAt
    cases hq : Nat.beq p pc with
    | true =>
      have e : p = pc := Nat.eq_of_beq_eq_true hq
      subst e
      exact h (p, s) List.mem_cons_self
    | false => exact okr_at (fun q hq => h q (List.mem_cons_of_mem _ hq)) pc
set_option maxRecDepth 100000 in
theorem oy_0 : ∀ y, y < 10 → OkY y := lt_s (lt_s (lt_s (lt_s (lt_s (lt_s (lt_s (lt_s (lt_s (lt_s (lt_0) (fun _ => otX0_init)) (fun _ => otX0_bookAll)) (fun _ => otX0_clearFor)) (fun _ => otX0_putInOrder)) (fun _ => otX0_bookBuy)) (fun _ => otX0_bookSell)) (fun _ => otX0_replaceByLotsLeft)) (fun _ => otX0_replace)) (fun _ => otX0_noteIfOpen)) (fun _ => otX0_dropClosed)
set_option maxRecDepth 100000 in
theorem oy_1 : ∀ y, y < 20 → OkY y := lt_s (lt_s (lt_s (lt_s (lt_s (lt_s (lt_s (lt_s (lt_s (lt_s (oy_0) (fun _ => otX0_bookSplit)) (fun _ => otX0_gainOf)) (fun _ => otX0_deferredOf)) (fun _ => otX0_allGains)) (fun _ => otX0_allDeferred)) (fun _ => otX1_init)) (fun _ => otX1_inSome)) (fun _ => otX1_inAll)) (fun _ => otX1_leftAtMost)) (fun _ => otX1_bestToAsk)
set_option maxRecDepth 100000 in
theorem oy_2 : ∀ y, y < 30 → OkY y := lt_s (lt_s (lt_s (lt_s (lt_s (lt_s (lt_s (lt_s (lt_s (lt_s (oy_1) (fun _ => otX2_init)) (fun _ => otX2_keep)) (fun _ => otX2_giveBack)) (fun _ => otX3_init)) (fun _ => otX4_init)) (fun _ => otX4_addBought)) (fun _ => otX4_part)) (fun _ => otX4_remove)) (fun _ => otX4_nextBy)) (fun _ => otX4_allShares)
set_option maxRecDepth 100000 in
theorem oy_3 : ∀ y, y < 40 → OkY y := lt_s (lt_s (lt_s (lt_s (lt_s (lt_s (lt_s (lt_s (lt_s (lt_s (oy_2) (fun _ => otX4_allCost)) (fun _ => otX4_longestChain)) (fun _ => otX5_init)) (fun _ => otX5_add)) (fun _ => otX5_gainsFrom)) (fun _ => otX5_movedFrom)) (fun _ => otX6_init)) (fun _ => otX6_readText)) (fun _ => otX6_readLine)) (fun _ => otX6_readWindow)
set_option maxRecDepth 100000 in
theorem oy_4 : ∀ y, y < 50 → OkY y := lt_s (lt_s (lt_s (lt_s (lt_s (lt_s (lt_s (lt_s (lt_s (lt_s (oy_3) (fun _ => otX6_readTrade)) (fun _ => otX6_readUnsure)) (fun _ => otX6_readGain)) (fun _ => otX6_readWhole)) (fun _ => otX6_faultHere)) (fun _ => otX6_sortByWord)) (fun _ => otX6_ruleByWord)) (fun _ => otX6_isWord)) (fun _ => otX6_step)) (fun _ => otX6_stepOverDigits)
set_option maxRecDepth 100000 in
theorem oy_5 : ∀ y, y < 60 → OkY y := lt_s (lt_s (lt_s (lt_s (lt_s (lt_s (lt_s (lt_s (lt_s (lt_s (oy_4) (fun _ => otX6_isLetter)) (fun _ => otX6_isDigit)) (fun _ => otX7_init)) (fun _ => otX7_forgetAll)) (fun _ => otX7_isUnsure)) (fun _ => otX7_hasGain)) (fun _ => otX7_addUnsure)) (fun _ => otX7_addGain)) (fun _ => otX8_init)) (fun _ => otX8_has)
set_option maxRecDepth 100000 in
theorem oy_6 : ∀ y, y < 70 → OkY y := lt_s (lt_s (lt_s (lt_s (lt_s (lt_s (lt_s (lt_s (lt_s (lt_s (oy_5) (fun _ => otX8_isSell)) (fun _ => otX8_splits)) (fun _ => otX8_latestDay)) (fun _ => otX8_copyFrom)) (fun _ => otX8_add)) (fun _ => otX8_remove)) (fun _ => otX9_init)) (fun _ => otX9_feed)) (fun _ => otX9_putOnTape)) (fun _ => otX9_ledger)
set_option maxRecDepth 100000 in
theorem oy_7 : ∀ y, y < 80 → OkY y := lt_s (lt_s (lt_s (lt_s (lt_s (lt_s (lt_s (lt_s (lt_s (lt_s (oy_6) (fun _ => otX9_refuseText)) (fun _ => otX9_takeOverTold)) (fun _ => otX9_takeOverTrialBook)) (fun _ => otX9_fault)) (fun _ => otX9_where)) (fun _ => otX9_trade)) (fun _ => otX9_booked)) (fun _ => otX9_held)) (fun _ => otX9_cost)) (fun _ => otX9_lots)
set_option maxRecDepth 100000 in
theorem oy_8 : ∀ y, y < 90 → OkY y := lt_s (lt_s (lt_s (lt_s (lt_s (lt_s (lt_s (lt_s (lt_s (lt_s (oy_7) (fun _ => otX9_lot)) (fun _ => otX9_lotCost)) (fun _ => otX9_mean)) (fun _ => otX9_commonDivisor)) (fun _ => otX9_worth)) (fun _ => otX9_chain)) (fun _ => otX9_gain)) (fun _ => otX9_deferred)) (fun _ => otX9_pieces)) (fun _ => otX9_piece)
set_option maxRecDepth 100000 in
theorem oy_9 : ∀ y, y < 100 → OkY y := lt_s (lt_s (lt_s (lt_s (lt_s (lt_s (lt_s (lt_s (lt_s (lt_s (oy_8) (fun _ => otX9_pieceSum)) (fun _ => otX9_gains)) (fun _ => otX9_deferrals)) (fun _ => otX9_lost)) (fun _ => otX9_open)) (fun _ => otX9_byRule)) (fun _ => otX9_leastRule)) (fun _ => otX9_byWindow)) (fun _ => otX9_trialGains)) (fun _ => otX9_until)
set_option maxRecDepth 100000 in
theorem oy_10 : ∀ y, y < 110 → OkY y := lt_s (lt_s (lt_s (lt_s (lt_s (lt_s (lt_s (lt_s (lt_s (lt_s (oy_9) (fun _ => otX9_heldAt)) (fun _ => otX9_later)) (fun _ => otX9_fits)) (fun _ => otX9_fitAt)) (fun _ => otX9_could)) (fun _ => otX9_surely)) (fun _ => otX9_ask)) (fun _ => otX9_askLeaves)) (fun _ => otX9_judge)) (fun _ => otX9_findFits)
set_option maxRecDepth 100000 in
theorem oy_11 : ∀ y, y < 120 → OkY y := lt_s (lt_s (lt_s (lt_s (lt_s (lt_s (lt_s (lt_s (lt_s (lt_s (oy_10) (fun _ => otX9_isFit)) (fun _ => otX9_firstWrongGain)) (fun _ => otX9_drawnGains)) (fun _ => otX9_drawnHeld)) (fun _ => otX9_bookDrawn)) (fun _ => otX9_nextDraw)) (fun _ => otX9_buy)) (fun _ => otX9_sell)) (fun _ => otX9_split)) (fun _ => otX9_bookOneMore)
set_option maxRecDepth 100000 in
theorem oy_12 : ∀ y, y < 130 → OkY y := lt_s (lt_s (lt_s (lt_s (lt_s (lt_s (lt_s (lt_s (lt_s (lt_s (oy_11) (fun _ => otX9_strike)) (fun _ => otX9_rule)) (fun _ => otX9_actByTrial)) (fun _ => otX9_undo)) (fun _ => otX9_image)) (fun _ => otX9_back)) (fun h => absurd rfl h)) (fun _ => otX9_size)) (fun _ => otX9_trouble)) (fun _ => otX9_refuse)
set_option maxRecDepth 100000 in
theorem oy_13 : ∀ y, y < 140 → OkY y := lt_s (lt_s (lt_s (lt_s (lt_s (lt_s (lt_s (lt_s (lt_s (lt_s (oy_12) (fun _ => otX9_hasPaper)) (fun _ => otX9_hasLot)) (fun _ => otX9_pieceRow)) (fun _ => otX9_isWithin)) (fun _ => otX10_init)) (fun _ => otX10_stands)) (fun _ => otX11_init)) (fun _ => otX11_thrown)) (fun _ => otX11_refused)) (fun _ => otX11_denied)
set_option maxRecDepth 100000 in
theorem oy_14 : ∀ y, y < 150 → OkY y := lt_s (lt_s (lt_s (lt_s (lt_s (lt_s (lt_s (lt_s (lt_s (lt_s (oy_13) (fun _ => otX11_good)) (fun _ => otX11_granted)) (fun _ => otX11_in)) (fun _ => otX11_bit)) (fun _ => otX11_common)) (fun _ => otX11_fraction)) (fun _ => otX11_of)) (fun _ => otX11_adds)) (fun _ => otX11_splitsIn)) (fun _ => otX11_byteAt)
set_option maxRecDepth 100000 in
theorem oy_15 : ∀ y, y < 160 → OkY y := lt_s (lt_s (lt_s (lt_s (lt_s (lt_s (lt_s (lt_s (lt_s (lt_s (oy_14) (fun _ => otX11_isLetter)) (fun _ => otX11_isDigit)) (fun _ => otX11_packed)) (fun _ => otX11_goesOn)) (fun _ => otX11_over)) (fun _ => otX11_flaw)) (fun _ => otX11_isWord)) (fun _ => otX11_eatsSemicolon)) (fun _ => otX11_needs)) (fun _ => otX11_wholeAt)
set_option maxRecDepth 100000 in
theorem oy_16 : ∀ y, y < 170 → OkY y := lt_s (lt_s (lt_s (lt_s (lt_s (lt_s (lt_s (lt_s (lt_s (lt_s (oy_15) (fun _ => otX11_readWhole)) (fun _ => otX11_readPart)) (fun _ => otX11_lineBegins)) (fun _ => otX11_toldAt)) (fun _ => otX11_isOf)) (fun _ => otX11_readAll)) (fun _ => otX11_readLine)) (fun _ => otX11_readLedger)) (fun _ => otX11_isFull)) (fun _ => otX11_readTrade)
set_option maxRecDepth 100000 in
theorem oy_17 : ∀ y, y < 180 → OkY y := lt_s (lt_s (lt_s (lt_s (lt_s (lt_s (lt_s (lt_s (lt_s (lt_s (oy_16) (fun _ => otX11_readRule)) (fun _ => otX11_readSplit)) (fun _ => otX11_readUnsure)) (fun _ => otX11_readGain)) (fun _ => otX11_feed)) (fun _ => otX11_ledger)) (fun _ => otX11_fault)) (fun _ => otX11_where)) (fun _ => otX11_copies)) (fun _ => otX11_works)
set_option maxRecDepth 100000 in
theorem oy_18 : ∀ y, y < 190 → OkY y := lt_s (lt_s (lt_s (lt_s (lt_s (lt_s (lt_s (lt_s (lt_s (lt_s (oy_17) (fun _ => otX11_orders)) (fun _ => otX11_isAhead)) (fun _ => otX11_moves)) (fun _ => otX11_lotEnd)) (fun _ => otX11_drops)) (fun _ => otX11_parts)) (fun _ => otX11_sharesOf)) (fun _ => otX11_costOf)) (fun _ => otX11_nextLot)) (fun _ => otX11_sold)
set_option maxRecDepth 100000 in
theorem oy_19 : ∀ y, y < 200 → OkY y := lt_s (lt_s (lt_s (lt_s (lt_s (lt_s (lt_s (lt_s (lt_s (lt_s (oy_18) (fun _ => otX11_replaces)) (fun _ => otX11_books)) (fun _ => otX11_booksPaper)) (fun _ => otX11_booksOne)) (fun _ => otX11_buys)) (fun _ => otX11_sells)) (fun _ => otX11_replacedByElder)) (fun _ => otX11_splits)) (fun _ => otX11_booksNow)) (fun _ => otX11_gainOf)
set_option maxRecDepth 100000 in
theorem oy_20 : ∀ y, y < 210 → OkY y := lt_s (lt_s (lt_s (lt_s (lt_s (lt_s (lt_s (lt_s (lt_s (lt_s (oy_19) (fun _ => otX11_ledOf)) (fun _ => otX11_allGains)) (fun _ => otX11_isPaper)) (fun _ => otX11_isTrade)) (fun _ => otX11_isSell)) (fun _ => otX11_trade)) (fun _ => otX11_booked)) (fun _ => otX11_held)) (fun _ => otX11_cost)) (fun _ => otX11_lots)
set_option maxRecDepth 100000 in
theorem oy_21 : ∀ y, y < 220 → OkY y := lt_s (lt_s (lt_s (lt_s (lt_s (lt_s (lt_s (lt_s (lt_s (lt_s (oy_20) (fun _ => otX11_lotAt)) (fun _ => otX11_lot)) (fun _ => otX11_lotCost)) (fun _ => otX11_mean)) (fun _ => otX11_none)) (fun _ => otX11_sum)) (fun _ => otX11_worth)) (fun _ => otX11_chain)) (fun _ => otX11_gain)) (fun _ => otX11_deferred)
set_option maxRecDepth 100000 in
theorem oy_22 : ∀ y, y < 230 → OkY y := lt_s (lt_s (lt_s (lt_s (lt_s (lt_s (lt_s (lt_s (lt_s (lt_s (oy_21) (fun _ => otX11_pieces)) (fun _ => otX11_pieceAt)) (fun _ => otX11_piece)) (fun _ => otX11_pieceSum)) (fun _ => otX11_gains)) (fun _ => otX11_deferrals)) (fun _ => otX11_lost)) (fun _ => otX11_open)) (fun _ => otX11_booksByRule)) (fun _ => otX11_byRule)
set_option maxRecDepth 100000 in
theorem oy_23 : ∀ y, y < 240 → OkY y := lt_s (lt_s (lt_s (lt_s (lt_s (lt_s (lt_s (lt_s (lt_s (lt_s (oy_22) (fun _ => otX11_leastRule)) (fun _ => otX11_byWindow)) (fun _ => otX11_until)) (fun _ => otX11_heldAt)) (fun _ => otX11_later)) (fun _ => otX11_booksSet)) (fun _ => otX11_wrongGain)) (fun _ => otX11_fits)) (fun _ => otX11_fitting)) (fun _ => otX11_fits_)
set_option maxRecDepth 100000 in
theorem oy_24 : ∀ y, y < 250 → OkY y := lt_s (lt_s (lt_s (lt_s (lt_s (lt_s (lt_s (lt_s (lt_s (lt_s (oy_23) (fun _ => otX11_fitAt)) (fun _ => otX11_could)) (fun _ => otX11_surely)) (fun _ => otX11_asks)) (fun _ => otX11_ask)) (fun _ => otX11_askLeaves)) (fun _ => otX11_judge)) (fun _ => otX11_draws)) (fun _ => otX11_lastDay)) (fun _ => otX11_booksDrawn)
set_option maxRecDepth 100000 in
theorem oy_25 : ∀ y, y < 260 → OkY y := lt_s (lt_s (lt_s (lt_s (lt_s (lt_s (lt_s (lt_s (lt_s (lt_s (oy_24) (fun _ => otX11_refusesDraw)) (fun _ => otX11_drawnGains)) (fun _ => otX11_drawnHeld)) (fun _ => otX11_takes)) (fun _ => otX11_refusesTrade)) (fun _ => otX11_isDeal)) (fun _ => otX11_tells)) (fun _ => otX11_buy)) (fun _ => otX11_sell)) (fun _ => otX11_split)
set_option maxRecDepth 100000 in
theorem oy_26 : ∀ y, y < 268 → OkY y := lt_s (lt_s (lt_s (lt_s (lt_s (lt_s (lt_s (lt_s (oy_25) (fun _ => otX11_strike)) (fun _ => otX11_rule)) (fun _ => otX11_undo)) (fun _ => otX11_image)) (fun _ => otX11_back)) (fun _ => otX11_led)) (fun _ => otX11_size)) (fun _ => otX11_trouble)
theorem mLoc_le : ∀ y, y < 268 → mLoc y ≤ 21 := by decide +kernel
theorem plainY : ∀ y, y < 268 → plainName (yN y).cls = true := by decide +kernel
theorem lg_iniA : ∀ vs : List Value, (lg_sl vs).length = (iniA vs).length
  | [] => rfl
  | v :: t => by
    have ih := lg_iniA t
    have e : lg_sl (v :: t) = (if v.category = 2 then [.val v, .second] else [.val v]) ++ lg_sl t := rfl
    rw [e]
    cases v <;> simp [iniA, Value.category, ih]
theorem lget_iniA : ∀ (vs : List Value) (n k : Nat) (v : Value), lget (iniA vs) k = some v → (n + k, v) ∈ lv_args n vs
  | [], _, _, _, h => by simp [iniA, lget] at h
  | .long x :: t, n, 0, v, h => by simp [iniA, lget] at h; subst h; simp [lv_args]
  | .long x :: t, n, 1, v, h => by simp [iniA, lget] at h
  | .long x :: t, n, k + 2, v, h => by
    have := lget_iniA t (n + 2) k v (by simpa [iniA, lget] using h)
    refine List.mem_cons_of_mem _ ?_
    rw [show n + (k + 2) = n + 2 + k by omega]; exact this
  | .double x :: t, n, 0, v, h => by simp [iniA, lget] at h; subst h; simp [lv_args]
  | .double x :: t, n, 1, v, h => by simp [iniA, lget] at h
  | .double x :: t, n, k + 2, v, h => by
    have := lget_iniA t (n + 2) k v (by simpa [iniA, lget] using h)
    refine List.mem_cons_of_mem _ ?_
    rw [show n + (k + 2) = n + 2 + k by omega]; exact this
  | .int x :: t, n, 0, v, h => by simp [iniA, lget] at h; subst h; simp [lv_args]
  | .int x :: t, n, k + 1, v, h => by
    have := lget_iniA t (n + 1) k v (by simpa [iniA, lget] using h)
    refine List.mem_cons_of_mem _ ?_
    rw [show n + (k + 1) = n + 1 + k by omega]; exact this
  | .float x :: t, n, 0, v, h => by simp [iniA, lget] at h; subst h; simp [lv_args]
  | .float x :: t, n, k + 1, v, h => by
    have := lget_iniA t (n + 1) k v (by simpa [iniA, lget] using h)
    refine List.mem_cons_of_mem _ ?_
    rw [show n + (k + 1) = n + 1 + k by omega]; exact this
  | .null :: t, n, 0, v, h => by simp [iniA, lget] at h; subst h; simp [lv_args]
  | .null :: t, n, k + 1, v, h => by
    have := lget_iniA t (n + 1) k v (by simpa [iniA, lget] using h)
    refine List.mem_cons_of_mem _ ?_
    rw [show n + (k + 1) = n + 1 + k by omega]; exact this
  | .ref x :: t, n, 0, v, h => by simp [iniA, lget] at h; subst h; simp [lv_args]
  | .ref x :: t, n, k + 1, v, h => by
    have := lget_iniA t (n + 1) k v (by simpa [iniA, lget] using h)
    refine List.mem_cons_of_mem _ ?_
    rw [show n + (k + 1) = n + 1 + k by omega]; exact this
  | .retAddr x :: t, n, 0, v, h => by simp [iniA, lget] at h; subst h; simp [lv_args]
  | .retAddr x :: t, n, k + 1, v, h => by
    have := lget_iniA t (n + 1) k v (by simpa [iniA, lget] using h)
    refine List.mem_cons_of_mem _ ?_
    rw [show n + (k + 1) = n + 1 + k by omega]; exact this
theorem pad_len : ∀ (n : Nat) (l : qL), (pad n l).length = n
  | 0, _ => rfl
  | n + 1, [] => by simp [pad, pad_len n []]
  | n + 1, _ :: t => by simp [pad, pad_len n t]
theorem lget_pad : ∀ (n : Nat) (l : qL) (k : Nat) (v : Value), lget (pad n l) k = some v → lget l k = some v
  | 0, _, _, _, h => by simp [pad, lget] at h
  | n + 1, [], 0, v, h => by simp [pad, lget] at h
  | n + 1, [], k + 1, v, h => by
    have := lget_pad n [] k v (by simpa [pad, lget] using h)
    simp [lget] at this
  | n + 1, x :: t, 0, v, h => by simpa [pad, lget] using h
  | n + 1, x :: t, k + 1, v, h => by
    have := lget_pad n t k v (by simpa [pad, lget] using h)
    simpa [lget] using this
set_option maxHeartbeats 1000000 in
theorem Run.sound (l : Launch) (b0 : Nat) (H0 : Heap) (D : va_G) (cy : Nat → ClassId) (ad adV : Nat → Nat) : ∀ (d y : Nat) (args : List Value) (A : qA) (S : qS) (K : qK), Run d y args A S K → y < 268 → y ≠ ledId → MetY l d (40 * d) b0 H0 D cy ad adV y args A S K
  | 0, _, _, _, _, _, h, _, _ => h.elim
  | d + 1, y, args, A, S, K, h, hy, hy1 => by
    obtain ⟨hmin, hargs, h⟩ := h
    refine Met.ofW (cc := cB y) (maxL := mLoc y) (ret := rT y) (plainY y hy) rfl ?_
    intro p e s m args' below meth c s₁ B hml hv
    obtain ⟨rfl, hH, hamb⟩ := hv
    have hts0 := atoms_spec (ws := Cond.code (yN y) (cB y) (mLoc y) (rT y) :: wsA) B.pre
    have hX : MX p (headSpec (Cond.code (yN y) (cB y) (mLoc y) (rT y) :: wsA) { frames := d + 1, cells := (bud y).1, slots := (bud y).2, locals := 40 * (d + 1) }).room s m args.toArray meth c (yN y).cls (cB y) (mLoc y) b0 H0 D cy ad adV A.2.2.1 A.2.2.2 (A.2.2.1 + (bud y).1, A.2.2.2 + (bud y).2) :=
      ⟨B.exec, B.bytes, hml, findClass_of_methodNamed B.named, fun w hw => hts0 w (List.mem_cons_of_mem _ hw), hamb, by show (bud y).1 = _; dsimp only; omega, by show (bud y).2 = _; dsimp only; omega, by show 1 ≤ d + 1; omega, by show 40 ≤ 40 * (d + 1); omega, hH.2.1, hH.2.2.1⟩
    have hname : meth.name = (yN y).name := (name_of_methodNamed B.named B.method).1
    have hrn : RnOk l (headSpec (Cond.code (yN y) (cB y) (mLoc y) (rT y) :: wsA) { frames := d + 1, cells := (bud y).1, slots := (bud y).2, locals := 40 * (d + 1) }).room b0 H0 D cy ad adV (Run d) := by
      intro y' as' A' S' K' hr' h1 h2
      have := mLoc_le y' h1
      exact ⟨d, 40 * d, by show d + 1 ≤ d + 1; omega, by show 8 + (mLoc y' + 11) + 40 * d ≤ 40 * (d + 1); omega, Run.sound l b0 H0 D cy ad adV d y' as' A' S' K' hr' h1 h2⟩
    have hrok : rokY y l (headSpec (Cond.code (yN y) (cB y) (mLoc y) (rT y) :: wsA) { frames := d + 1, cells := (bud y).1, slots := (bud y).2, locals := 40 * (d + 1) }).room b0 H0 D cy ad adV (Run d) := by
      unfold rokY
      cases hq : Nat.beq (minD y) 5 with
      | true =>
        have e : minD y = 5 := Nat.eq_of_beq_eq_true hq
        exact ⟨hrn, by show 5 ≤ d + 1; omega, by show 141 ≤ 40 * (d + 1); omega⟩
      | false => exact hrn
    have hall := okr_at (oy_26 y hy hy1)
    have hJ := h (MJ p l e (headSpec (Cond.code (yN y) (cB y) (mLoc y) (rT y) :: wsA) { frames := d + 1, cells := (bud y).1, slots := (bud y).2, locals := 40 * (d + 1) }).room s m args.toArray below meth c (MQ below (QcM b0 H0 D cy ad A (bud y) K) args.toArray s (bud y).1 (bud y).2 (fun q => b0 ≤ q)) b0 H0 D cy ad A.2.2.1 A.2.2.2 (A.2.2.1 + (bud y).1, A.2.2.2 + (bud y).2))
      (fun J' hJ' pc ls st A' S' hs => hall pc p l e _ s m args.toArray below meth c b0 H0 D cy ad adV A K (Run d) J' hX (fun z => hname.trans z) B.returns B.notSynchronized hrok hJ' ls st A' S' hs)
    have hl := lv_entry args (n := mLoc y) (by rw [lg_iniA]; exact hargs)
    have hw := hJ (Nat.le_refl _) (Nat.le_refl _) (Nat.le_add_right _ _) (Nat.le_add_right _ _) s.heap [] ((lg_sl args ++ List.replicate (mLoc y - (lg_sl args).length) Slot.unset).toArray) hH va_S.rf ⟨by rw [hml]; exact pad_len _ _, by rw [hml]; exact hl.1, hl.2.1, fun k v hk => by
      have h1 := lget_iniA args 0 k v (lget_pad _ _ k v hk)
      rw [Nat.zero_add] at h1
      exact hl.2.2 _ h1⟩
    rw [Nat.sub_self, Nat.sub_self] at hw
    rw [lg_entry_eq]
    exact hw
