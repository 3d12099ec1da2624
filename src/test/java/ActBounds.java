/** The boundary cases of promises 40 to 50: ACTS, UNDO, IMAGES, and what is told. */
final class ActBounds {
    private static final String HEAD = "ledger window 0;";
    private static final int[] NO_PAPERS = {-1, 3, Integer.MIN_VALUE, Integer.MAX_VALUE};
    private static final int[] NO_RULES = {-1, 4, Integer.MIN_VALUE, Integer.MAX_VALUE};
    /** DAY, SHARES, PRICE, one of them out of its bounds. */
    private static final int[][] NO_NUMBERS = {{-1, 1, 1}, {1000, 1, 1}, {0, 0, 1}, {0, 1000, 1}, {0, 1, -1}, {0, 1, 1000},
        {Integer.MIN_VALUE, 1, 1}, {Integer.MAX_VALUE, 1, 1}, {0, Integer.MIN_VALUE, 1}, {0, Integer.MAX_VALUE, 1},
        {0, 1, Integer.MIN_VALUE}, {0, 1, Integer.MAX_VALUE}};
    /** DAY, A, B likewise. */
    private static final int[][] NO_RATIOS = {{-1, 1, 1}, {1000, 1, 1}, {0, 0, 1}, {0, 10, 1}, {0, 1, 0}, {0, 1, 10}, {0, -1, 1},
        {0, 1, -1}, {Integer.MAX_VALUE, 1, 1}, {0, Integer.MAX_VALUE, 1}, {0, 1, Integer.MAX_VALUE}, {0, Integer.MIN_VALUE, 1},
        {0, 1, Integer.MIN_VALUE}};
    private final Sentences s;

    ActBounds(Sentences sentences) {
        s = sentences;
    }

    void run() {
        buy();
        sell();
        split();
        room();
        strike();
        rule();
        undo();
        image();
        back();
        told();
        trouble();
        allCalls();
    }

    private void buy() {
        s.test("Promise 40", "its number", () -> {
            LotLedger x = Check.of("ledger window 0");
            s.due("of none the first", x.buy(0, 9, 1, 1), 0, x, 0);
            s.due("whatever its DAY", x.buy(0, 3, 1, 1), 1, x, 0);
        });
        s.test("Promise 40", "(DAY 0 .. 999; SHARES 1 .. 999; PRICE 0 .. 999.)", () -> {
            LotLedger x = Check.of("ledger window 0");
            s.due("least", x.buy(0, 0, 1, 0), 0, x, 0);
            s.due("most", x.buy(2, 999, 999, 999), 1, x, 0);
            s.due("as told", x.trade(1, 2) + x.trade(1, 3) + x.trade(1, 4), 2997);
        });
        s.test("Promise 40", "NONE: 1 (a PAPER)", () -> {
            LotLedger x = Check.of("ledger window 0");
            for (int p : NO_PAPERS) {
                s.due("PAPER " + p, x.buy(p, 0, 1, 1), -1, x, 1);
                s.due("1 ahead of 2", x.buy(p, -1, 0, -1), -1, x, 1);
            }
            LotLedger none = new LotLedger();
            s.due("no LEDGER", none.buy(0, 0, 1, 1), -1, none, 1);
            s.due("no LEDGER, 1 ahead of 2", none.buy(0, -1, 1, 1), -1, none, 1);
        });
        s.test("Promise 40", "2 (DAY, SHARES, PRICE)", () -> {
            LotLedger x = Check.of("ledger window 0");
            for (int[] n : NO_NUMBERS) {
                s.due("buy " + n[0] + " " + n[1] + " " + n[2], x.buy(0, n[0], n[1], n[2]), -1, x, 2);
            }
            s.due("none is BOOKED", x.size(1), 0);
        });
        s.test("Promise 40", "5 (some sell is SHORT)", () -> {
            LotLedger x = Check.of("ledger window 10;buy 0 0 2 20;sell 0 5 2 10 last;buy 0 8 2 30;split 0 9 1 2;sell 0 10 1 99 last");
            s.due("buy", x.buy(0, 6, 1, 5), -1, x, 5);
            s.due("none is BOOKED", x.size(1), 5);
            s.due("none can be undone", x.size(5), 0);
            s.due("GAINS", x.gains(), 19);
        });
    }

    private void sell() {
        s.test("Promise 41", "its number", () -> {
            LotLedger x = Check.of(HEAD + "buy 0 0 999 1");
            s.due("of most", x.sell(0, 999, 999, 999, 3), 1, x, 0);
            LotLedger y = Check.of(HEAD + "buy 2 0 1 1");
            s.due("of least", y.sell(2, 0, 1, 0, 0), 1, y, 0);
        });
        s.test("Promise 41", "NONE: 1 (a PAPER, RULE)", () -> {
            LotLedger x = Check.of(HEAD + "buy 0 0 9 1");
            for (int p : NO_PAPERS) {
                s.due("PAPER " + p, x.sell(p, 0, 1, 1, 0), -1, x, 1);
            }
            for (int rule : NO_RULES) {
                s.due("RULE " + rule, x.sell(0, 0, 1, 1, rule), -1, x, 1);
                s.due("1 ahead of 2", x.sell(0, -1, 1, 1, rule), -1, x, 1);
            }
            for (int rule = 0; rule < 4; rule++) {
                s.due("RULE " + rule, x.sell(0, 0, 1, 1, rule), rule + 1, x, 0);
                s.due("as told", x.trade(rule + 1, 5), rule);
            }
            LotLedger none = new LotLedger();
            s.due("no LEDGER", none.sell(0, 0, 1, 1, 0), -1, none, 1);
        });
        s.test("Promise 41", "2", () -> {
            LotLedger x = Check.of(HEAD + "buy 0 0 9 1");
            for (int[] n : NO_NUMBERS) {
                s.due("sell " + n[0] + " " + n[1] + " " + n[2], x.sell(0, n[0], n[1], n[2], 0), -1, x, 2);
            }
        });
        s.test("Promise 41", "5 (some sell is SHORT)", () -> {
            LotLedger x = Check.of(HEAD + "buy 0 5 4 10;sell 0 9 2 10 first");
            s.due("itself", x.sell(0, 9, 3, 1, 0), -1, x, 5);
            s.due("itself, on a DAY ahead", x.sell(0, 4, 1, 1, 0), -1, x, 5);
            s.due("one behind", x.sell(0, 5, 3, 1, 0), -1, x, 5);
            s.due("as many as there are", x.sell(0, 5, 2, 1, 0), 2, x, 0);
            s.due("none is left", x.sell(0, 999, 1, 1, 0), -1, x, 5);
            s.due("2 ahead of 5", x.sell(0, 999, 1000, 1, 0), -1, x, 2);
        });
    }

    private void split() {
        s.test("Promise 42", "its number; A, B: 1 .. 9", () -> {
            LotLedger x = Check.of(HEAD + "buy 0 0 9 1");
            s.due("most", x.split(0, 0, 9, 1), 1, x, 0);
            s.due("held", x.held(0), 81);
            s.due("least", x.split(0, 999, 1, 9), 2, x, 0);
            s.due("held", x.held(0), 9);
            s.due("A", x.trade(2, 3), 1);
            s.due("B", x.trade(2, 4), 9);
            s.due("RULE", x.trade(2, 5), -2);
        });
        s.test("Promise 42", "NONE: 1", () -> {
            LotLedger x = Check.of("ledger window 0");
            for (int p : NO_PAPERS) {
                s.due("PAPER " + p, x.split(p, 0, 1, 1), -1, x, 1);
                s.due("1 ahead of 2", x.split(p, 0, 0, 1), -1, x, 1);
            }
            LotLedger none = new LotLedger();
            s.due("no LEDGER", none.split(0, 0, 1, 1), -1, none, 1);
        });
        s.test("Promise 42", "2 (DAY, A, B: 1 .. 9)", () -> {
            LotLedger x = Check.of("ledger window 0");
            for (int[] n : NO_RATIOS) {
                s.due("split " + n[0] + " " + n[1] + " " + n[2], x.split(0, n[0], n[1], n[2]), -1, x, 2);
            }
        });
        s.test("Promise 42", "3 (4 splits at most, too)", () -> {
            LotLedger x = Check.of(HEAD + "split 0 0 1 1;split 1 0 1 1;split 2 0 1 1");
            s.due("a fourth", x.split(0, 0, 1, 1), 3, x, 0);
            s.due("a fifth", x.split(0, 0, 1, 1), -1, x, 3);
            s.due("2 ahead of 3", x.split(0, 0, 1, 10), -1, x, 2);
            s.due("1 ahead of 3", x.split(3, 0, 1, 1), -1, x, 1);
            s.due("a buy", x.buy(0, 0, 1, 1), 4, x, 0);
            s.due("UNDO the buy", x.undo(), true);
            s.due("UNDO the split", x.undo(), true);
            s.due("there is room again", x.split(0, 0, 1, 1), 3, x, 0);
            LotLedger y = Check.of(HEAD + "buy 0 0 1 1;sell 0 9 1 1 first;split 1 0 1 1;split 1 0 1 1;split 1 0 1 1;split 1 0 1 1");
            s.due("3 ahead of 5", y.split(0, 5, 1, 2), -1, y, 3);
        });
        s.test("Promise 42", "5", () -> {
            LotLedger x = Check.of(HEAD + "buy 0 0 5 1;sell 0 9 4 1 first");
            s.due("5 by 2", x.split(0, 9, 1, 2), 2, x, 0);
            s.due("5 by 2 ahead", x.split(0, 8, 1, 2), -1, x, 5);
            s.due("none is BOOKED", x.size(1), 3);
        });
    }

    private static LotLedger full() {
        LotLedger x = Check.of(HEAD + "buy 0 0 1 1;".repeat(15) + "buy 0 0 1 1");
        for (int k = 16; k < 24; k++) {
            x.buy(0, 0, 1, 1);
        }
        return x;
    }

    private void room() {
        s.test("Promise 40", "3 (24 TRADES at most)", () -> {
            LotLedger x = full();
            s.due("24", x.size(1), 24);
            s.due("the last", x.booked(23), 23);
            s.due("buy", x.buy(0, 0, 1, 1), -1, x, 3);
            s.due("2 ahead of 3", x.buy(0, 0, 0, 1), -1, x, 2);
            s.due("1 ahead of 3", x.buy(3, 0, 1, 1), -1, x, 1);
            s.due("none is BOOKED", x.size(1), 24);
            s.due("STRIKE", x.strike(0), 23, x, 0);
            s.due("there is room again", x.buy(0, 0, 1, 1), 23, x, 0);
        });
        s.test("Promise 41", "3", () -> {
            LotLedger x = full();
            s.due("sell", x.sell(0, 0, 1, 1, 0), -1, x, 3);
            s.due("3 ahead of 5", x.sell(1, 0, 1, 1, 0), -1, x, 3);
            s.due("2 ahead of 3", x.sell(0, 0, 0, 1, 0), -1, x, 2);
            s.due("1 ahead of 3", x.sell(0, 0, 1, 1, 4), -1, x, 1);
            s.due("STRIKE", x.strike(23), 23, x, 0);
            s.due("the last", x.sell(0, 0, 1, 1, 0), 23, x, 0);
        });
        s.test("Promise 42", "3", () -> {
            LotLedger x = full();
            s.due("split", x.split(0, 0, 1, 1), -1, x, 3);
            s.due("UNDO", x.undo(), true);
            s.due("the last", x.split(0, 0, 1, 1), 23, x, 0);
        });
        s.test("Promise 38", "n TRADES, behind 24 of them", () -> {
            LotLedger x = full();
            s.due("12 buys", x.drawnHeld(1, 65536, 12), 204, x, 0);
        });
    }

    private void strike() {
        s.test("Promise 43", "STRIKE: how many TRADES are left", () -> {
            LotLedger x = Check.of(HEAD + "buy 0 0 1 1;split 1 0 1 1;sell 0 9 1 1 first");
            s.due("the last", x.strike(2), 2, x, 0);
            s.due("the first", x.strike(0), 1, x, 0);
            s.due("the only one", x.strike(0), 0, x, 0);
            s.due("as told", x.size(2), 3);
        });
        s.test("Promise 43", "NONE: 1", () -> {
            LotLedger x = Check.of(HEAD + "buy 0 0 1 1;buy 0 0 1 1");
            for (int t : new int[] {-1, 2, 24, Integer.MIN_VALUE, Integer.MAX_VALUE}) {
                s.due("TRADE " + t, x.strike(t), -1, x, 1);
            }
            LotLedger y = Check.of("ledger window 0");
            s.due("of none", y.strike(0), -1, y, 1);
            LotLedger none = new LotLedger();
            s.due("no LEDGER", none.strike(0), -1, none, 1);
        });
        s.test("Promise 43", "5", () -> {
            LotLedger x = Check.of(HEAD + "buy 0 0 1 1;buy 0 0 2 1;sell 0 9 2 1 first;split 0 1 2 1;sell 0 9 1 1 first");
            s.due("a buy", x.strike(1), -1, x, 5);
            s.due("none is struck", x.size(1), 5);
            s.due("one that isn't needed", x.strike(0), 4, x, 0);
            s.due("a split", x.strike(2), -1, x, 5);
            s.due("a sell", x.strike(1), 3, x, 0);
            s.due("then the split", x.strike(1), 2, x, 0);
            s.due("the buy", x.strike(0), -1, x, 5);
        });
    }

    private void rule() {
        s.test("Promise 44", "RULE (0 .. 3; the one it has, too): the one it had", () -> {
            LotLedger x = Check.of(HEAD + "buy 0 0 1 1;sell 0 9 1 1 dearest");
            int had = 2;
            for (int rule : new int[] {0, 1, 2, 3, 3}) {
                s.due("RULE " + rule, x.rule(1, rule), had, x, 0);
                s.due("it has", x.trade(1, 5), rule);
                had = rule;
            }
            s.due("each an ACT", x.size(5), 5);
            s.due("UNDO the one it had", x.undo(), true);
            s.due("four are left", x.size(5), 4);
            s.due("it has", x.trade(1, 5), 3);
        });
        s.test("Promise 44", "NONE: 1 (no sell, no RULE)", () -> {
            LotLedger x = Check.of(HEAD + "buy 0 0 1 1;sell 0 9 1 1 dearest;split 0 0 1 1");
            for (int t : new int[] {-1, 0, 2, 3, Integer.MIN_VALUE, Integer.MAX_VALUE}) {
                s.due("TRADE " + t, x.rule(t, 0), -1, x, 1);
            }
            for (int rule : NO_RULES) {
                s.due("RULE " + rule, x.rule(1, rule), -1, x, 1);
            }
            s.due("no ACT", x.size(5), 0);
            LotLedger none = new LotLedger();
            s.due("no LEDGER", none.rule(0, 0), -1, none, 1);
        });
        s.test("Promise 44", "5", () -> {
            LotLedger x = Check.of(HEAD + "buy 0 0 3 10;buy 0 1 4 20;sell 0 5 1 30 first;split 0 6 1 2;sell 0 7 3 30 first");
            s.due("last", x.rule(2, 1), -1, x, 5);
            s.due("it has", x.trade(2, 5), 0);
            s.due("no ACT", x.size(5), 0);
            s.due("cheapest", x.rule(2, 3), 0, x, 0);
        });
    }

    private void undo() {
        s.test("Promise 45", "UNDO: true; false: 6", () -> {
            LotLedger none = new LotLedger();
            s.due("no LEDGER", none.undo(), false, none, 6);
            LotLedger x = Check.of(HEAD + "buy 0 0 1 1");
            s.due("no ACT", x.undo(), false, x, 6);
            s.due("as told", x.size(1), 1);
            x.strike(0);
            s.due("an ACT", x.undo(), true, x, 0);
            s.due("no more", x.undo(), false, x, 6);
            s.due("held", x.held(0), 1);
        });
        s.test("Promise 45", "nothing to undo of what was refused or only asked", () -> {
            LotLedger x = Check.of(HEAD + "buy 0 0 1 1;sell 0 0 1 1 first");
            x.sell(0, 0, 1, 1, 0);
            x.strike(0);
            x.byRule(1, 2);
            x.later(1);
            x.drawnGains(1, 1);
            x.image();
            s.due("UNDO", x.undo(), false, x, 6);
        });
    }

    private void image() {
        s.test("Promise 46", "An IMAGE: its number. NONE: 1 (no LEDGER); 3.", () -> {
            LotLedger none = new LotLedger();
            s.due("no LEDGER", none.image(), -1, none, 1);
            LotLedger x = Check.of("ledger window 0");
            for (int k = 0; k < 3; k++) {
                s.due("IMAGE", x.image(), k, x, 0);
            }
            s.due("a fourth", x.image(), -1, x, 3);
            s.due("back", x.back(2), true);
            s.due("none is gone", x.image(), -1, x, 3);
            s.due("UNDO", x.undo(), false, x, 6);
            s.due("nor is an IMAGE undone", x.size(6), 3);
        });
    }

    private void back() {
        s.test("Promise 47", "All is as by an IMAGE (all IMAGES stay): true", () -> {
            LotLedger x = Check.of("ledger window 9;buy 0 0 2 10;sell 0 5 1 5 first");
            x.image();
            x.strike(1);
            x.image();
            x.strike(0);
            x.image();
            x.split(2, 9, 9, 1);
            s.due("0", x.back(0), true, x, 0);
            s.due("TRADES", x.size(1), 2);
            s.due("DEFERRED", x.deferrals(), 5);
            s.due("COST", x.cost(0), 15);
            s.due("2", x.back(2), true, x, 0);
            s.due("TRADES", x.size(1), 0);
            s.due("1", x.back(1), true, x, 0);
            s.due("held", x.held(0), 2);
            s.due("all stay", x.size(6), 3);
            x.buy(0, 0, 1, 1);
            s.due("1 again", x.back(1), true, x, 0);
            s.due("it is as it was", x.held(0), 2);
        });
        s.test("Promise 47", "false: 1", () -> {
            LotLedger none = new LotLedger();
            s.due("no LEDGER", none.back(0), false, none, 1);
            LotLedger x = Check.of("ledger window 0");
            s.due("no IMAGES", x.back(0), false, x, 1);
            x.image();
            x.image();
            x.buy(0, 0, 1, 1);
            for (int i : new int[] {-1, 2, 3, Integer.MIN_VALUE, Integer.MAX_VALUE}) {
                s.due("IMAGE " + i, x.back(i), false, x, 1);
            }
            s.due("all is as it was", x.size(1), 1);
            s.due("it can be undone", x.size(5), 1);
            x.image();
            for (int i : new int[] {-1, 3}) {
                s.due("IMAGE " + i, x.back(i), false, x, 1);
            }
        });
    }

    private void told() {
        s.test("Promise 48", "The i-th sell, by numbers, with something DEFERRED", () -> {
            LotLedger x = Check.of("ledger window 0;buy 0 0 1 9;sell 0 8 1 5 first;buy 0 8 1 9;sell 0 7 1 5 first;buy 0 7 1 9;sell 0 9 1 10 first");
            s.due("the first", Check.led(x, 0), 1);
            s.due("the second, BOOKED ahead", Check.led(x, 1), 3);
        });
        s.test("Promise 48", "NoSuchElementException if there is none such", () -> {
            LotLedger x = Check.of("ledger window 0;buy 0 0 1 9;sell 0 8 1 5 first;buy 0 8 1 9");
            for (int i : new int[] {-1, 1, 2, Integer.MIN_VALUE, Integer.MAX_VALUE}) {
                s.due("led " + i, Check.led(x, i), -99);
            }
            s.due("the one that there is", Check.led(x, 0), 1);
            s.due("1 is something", Check.led(Check.of("ledger window 0;buy 0 0 1 9;sell 0 8 1 8 first;buy 0 8 1 9"), 0), 1);
            s.due("the first TRADE", Check.led(Check.of("ledger window 9;sell 0 8 1 8 first;buy 0 0 2 9;buy 0 9 1 1"), 0), 0);
            s.due("none DEFERRED", Check.led(Check.of(HEAD + "buy 0 0 1 9;sell 0 8 1 5 first"), 0), -99);
            s.due("no LEDGER", Check.led(new LotLedger(), 0), -99);
            s.due("no LEDGER, -1", Check.led(new LotLedger(), -1), -99);
        });
        s.test("Promise 49", "NONE for others; 0 for what there isn't", () -> {
            LotLedger none = new LotLedger();
            LotLedger x = Check.of("ledger window 0");
            for (int what = 0; what <= 7; what++) {
                s.due("no LEDGER, " + what, none.size(what), 0);
                s.due("of none, " + what, x.size(what), 0);
            }
            for (int what : new int[] {-1, 8, Integer.MIN_VALUE, Integer.MAX_VALUE}) {
                s.due("no LEDGER, " + what, none.size(what), -1);
                s.due("size " + what, x.size(what), -1);
            }
        });
        s.test("Promise 49", "0 window, 1 TRADES NOW, 2 TRADES as told, 3 unsure ones, 4 gains told, 5 ACTS that can be undone, 6 IMAGES, 7 bytes of THE TAPE", () -> {
            LotLedger x = Check.of("ledger window 60;" + "buy 0 0 9 1;sell 0 9 1 2 first;".repeat(8)
                + "unsure 0 1;unsure 1 1;unsure 2 1;unsure 3 1;gain 1 up 1;gain 3 up 1;gain 5 up 1;gain 7 up 1;gain 9 up 1;gain 11 up 1");
            for (int k = 0; k < 8; k++) {
                x.buy(1, 0, 1, 1);
            }
            for (int k = 0; k < 9; k++) {
                x.rule(1, 0);
            }
            for (int k = 0; k < 4; k++) {
                x.image();
            }
            for (int k = 0; k < 46; k++) {
                x.feed(0, 0, 0, 0, 0);
            }
            int[] most = {60, 24, 16, 4, 6, 16, 3, 900};
            for (int what = 0; what <= 7; what++) {
                s.due("the most, " + what, x.size(what), most[what]);
            }
        });
    }

    private void trouble() {
        s.test("Promise 50", "TROUBLE.", () -> {
            LotLedger x = new LotLedger();
            s.due("new", x.trouble(), 0);
            x.undo();
            s.due("6", x.trouble(), 6);
            s.due("it is told again", x.trouble(), 6);
            s.due("a LEDGER", Check.read(x, "ledger window 0"), 0, x, 0);
            x.undo();
            s.due("not refused", x.gains(), 0, x, 0);
        });
    }

    private void allCalls() {
        s.test("Promise 50", "up to the 512th call", () -> {
            LotLedger x = new LotLedger();
            int calls = 0;
            for (int k = 0; k < 36; k++) {
                Check.feed(x, "ledger window 0;buy 0 0 2 9;sell 0 1 1 5 first;buy 0 1 1 8 ;");
                s.due("ledger", x.ledger(58), 3, x, 0);
                s.due("DEFERRED", x.deferrals(), 4);
                s.due("buy", x.buy(0, 2, 1, 1), 3);
                s.due("image", x.image(), 0);
                s.due("strike", x.strike(3), 3);
                s.due("undo", x.undo(), true);
                s.due("back", x.back(0), true);
                s.due("drawn", x.drawnHeld(1, 65536, 12), 204);
                s.due("held", x.held(0), 3);
                calls += 14;
            }
            s.due("calls", calls, 504);
            s.due("the last", x.cost(0), 22, x, 0);
        });
    }
}
