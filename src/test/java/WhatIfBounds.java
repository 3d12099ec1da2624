/** The boundary cases of promises 25 to 39: what if, unsure prices, and what is drawn. */
final class WhatIfBounds {
    private static final String HEAD = "ledger window 0;";
    private static final String HALVED = HEAD + "buy 0 0 3 10;buy 0 1 4 20;sell 0 5 1 30 first;split 0 6 1 2;sell 0 7 3 30 first";
    private static final int[] NO_PAPERS = {-1, 3, Integer.MIN_VALUE, Integer.MAX_VALUE};
    private static final int[] NO_DAYS = {-1, 1000, Integer.MIN_VALUE, Integer.MAX_VALUE};
    private final Sentences s;

    WhatIfBounds(Sentences sentences) {
        s = sentences;
    }

    void run() {
        rules();
        windows();
        days();
        later();
        laterEdges();
        fits();
        bits();
        asks();
        judge();
        drawn();
    }

    private void rules() {
        LotLedger none = new LotLedger();
        int[] noSells = {-1, 0, 3, 5, Integer.MIN_VALUE, Integer.MAX_VALUE};
        s.test("Promise 25", "0: 1; 2; 5 (some is SHORT then; trouble() tells)", () -> {
            LotLedger x = Check.of(HALVED);
            long[] due = {10, 0, 0, 10};
            int[] trouble = {0, 5, 5, 0};
            for (int rule = 0; rule < 4; rule++) {
                s.due("RULE " + rule, x.byRule(2, rule), due[rule], x, trouble[rule]);
            }
            for (int rule : new int[] {-1, 4, Integer.MIN_VALUE, Integer.MAX_VALUE}) {
                s.due("RULE " + rule, x.byRule(2, rule), 0, x, 2);
                s.due("1 ahead of 2", x.byRule(0, rule), 0, x, 1);
            }
            for (int t : noSells) {
                s.due("TRADE " + t, x.byRule(t, 0), 0, x, 1);
            }
            s.due("no LEDGER", none.byRule(0, 0), 0, none, 1);
            s.due("nothing is changed", x.trade(2, 5), 0);
            s.due("nor the GAINS", x.gains(), 10);
        });
        s.test("Promise 26", "The RULE by which none is SHORT and all GAINS are least, the first such", () -> {
            LotLedger x = Check.of(HALVED);
            s.due("first and cheapest are like, the others SHORT", x.leastRule(2), 0, x, 0);
            LotLedger y = Check.of(HEAD + "buy 0 0 1 5;buy 0 0 1 9;buy 0 0 1 7;sell 0 1 1 9 cheapest");
            s.due("dearest", y.leastRule(3), 2, y, 0);
            y.buy(0, 0, 1, 9);
            s.due("last and dearest are like", y.leastRule(3), 1, y, 0);
            // What is sold cheapest leaves the dearest to be lost: least of all GAINS, though not of the sell.
            LotLedger v = Check.of("ledger window 4;buy 0 7 1 3;buy 0 0 2 5;buy 0 4 1 4;buy 0 5 1 2;sell 0 8 2 1 first");
            s.due("the last RULE", v.leastRule(4), 3, v, 0);
            LotLedger z = Check.of(HEAD + "buy 0 0 1 5;sell 0 1 1 9 cheapest");
            s.due("all are like", z.leastRule(1), 0, z, 0);
            // By first or dearest -10 and -60, by last or cheapest 10 and -120.
            LotLedger w = Check.of(HEAD + "buy 0 0 3 40;buy 0 1 4 20;sell 0 5 1 30 cheapest;split 0 6 1 2;sell 0 7 2 30 first");
            s.due("all GAINS, not the sell's", w.leastRule(2), 1, w, 0);
            s.due("it has the one it had", w.trade(2, 5), 3);
            s.due("GAINS are as they were", w.gains(), -110, w, 0);
        });
        s.test("Promise 26", "NONE: 1", () -> {
            LotLedger x = Check.of(HALVED);
            for (int t : noSells) {
                s.due("TRADE " + t, x.leastRule(t), -1, x, 1);
            }
            s.due("no LEDGER", none.leastRule(0), -1, none, 1);
        });
    }

    private void windows() {
        s.test("Promise 27", "All GAINS by a window (0 .. 60)", () -> {
            LotLedger x = Check.of("ledger window 30;buy 0 0 9 20;sell 0 60 1 10 first;sell 0 100 1 10 first;buy 0 100 1 1");
            s.due("0", x.byWindow(0), -10, x, 0);
            s.due("59", x.byWindow(59), -10, x, 0);
            s.due("60", x.byWindow(60), 0, x, 0);
            s.due("the window is as it was", x.size(0), 30);
            s.due("GAINS are as they were", x.gains(), -10, x, 0);
        });
        s.test("Promise 27", "0: 1 (no LEDGER); 2", () -> {
            LotLedger x = Check.of("ledger window 30");
            LotLedger none = new LotLedger();
            for (int w : new int[] {-1, 61, Integer.MIN_VALUE, Integer.MAX_VALUE}) {
                s.due("window " + w, x.byWindow(w), 0, x, 2);
                s.due("no LEDGER", none.byWindow(w), 0, none, 1);
            }
        });
        s.test("Promise 27", "5 (some sell is SHORT then; trouble() tells)", () -> {
            LotLedger x = Check.of(HEAD + "buy 0 0 1 20;sell 0 5 1 10 first;buy 0 8 2 30;split 0 9 1 2;sell 0 10 1 99 last");
            s.due("2", x.byWindow(2), 29, x, 0);
            s.due("3", x.byWindow(3), 0, x, 5);
            s.due("60", x.byWindow(60), 0, x, 5);
        });
    }

    private void days() {
        LotLedger none = new LotLedger();
        String text = "ledger window 9;buy 0 0 9 10;sell 0 500 1 4 first;sell 0 999 1 15 first;buy 0 509 1 8;split 0 998 2 1";
        s.test("Promise 28", "TRADES on DAYS up to one (0 .. 999; no others BOOKED)", () -> {
            LotLedger x = Check.of(text);
            int[] days = {0, 499, 500, 508, 509, 998, 999};
            int[] due = {0, 0, -6, -6, 0, 0, 10};
            for (int k = 0; k < 7; k++) {
                s.due("until " + days[k], x.until(days[k]), due[k], x, 0);
            }
            s.due("all are BOOKED", x.gains(), 10, x, 0);
            s.due("on DAY 0", Check.of(HEAD + "buy 0 0 1 1;sell 0 0 1 9 first").until(0), 8);
        });
        s.test("Promise 28", "0: 1 (no LEDGER); 2 (trouble() tells)", () -> {
            LotLedger x = Check.of(text);
            for (int day : NO_DAYS) {
                s.due("until " + day, x.until(day), 0, x, 2);
                s.due("no LEDGER", none.until(day), 0, none, 1);
            }
        });
        s.test("Promise 29", "SHARES of a PAPER behind that DAY", () -> {
            LotLedger x = Check.of(text);
            int[] days = {0, 499, 500, 508, 509, 997, 998, 999};
            int[] due = {9, 9, 8, 8, 9, 9, 18, 17};
            for (int k = 0; k < 8; k++) {
                s.due("heldAt " + days[k], x.heldAt(0, days[k]), due[k], x, 0);
            }
            s.due("another PAPER", x.heldAt(2, 999), 0, x, 0);
            s.due("held", x.held(0), 17, x, 0);
        });
        s.test("Promise 29", "NONE: 1; 2", () -> {
            LotLedger x = Check.of(text);
            for (int day : NO_DAYS) {
                s.due("heldAt " + day, x.heldAt(0, day), -1, x, 2);
            }
            for (int p : NO_PAPERS) {
                s.due("PAPER " + p, x.heldAt(p, 0), -1, x, 1);
                s.due("1 ahead of 2", x.heldAt(p, -1), -1, x, 1);
            }
            s.due("no LEDGER", none.heldAt(0, 0), -1, none, 1);
        });
    }

    private void later() {
        s.test("Promise 30", "By how few days a sell would have to be later that nothing of it is DEFERRED", () -> {
            LotLedger x = Check.of("ledger window 10;buy 0 0 2 20;buy 0 3 2 20;sell 0 5 2 10 first;buy 0 40 1 1");
            s.due("14 is beyond 3 and 10", x.later(2), 9, x, 0);
            s.due("nothing is changed", x.trade(2, 2), 5);
            s.due("nor what is DEFERRED", x.deferred(2), 20);
            LotLedger y = Check.of("ledger window 10;buy 0 0 2 20;buy 0 3 2 20;sell 0 5 2 10 first;buy 0 23 1 1");
            s.due("and ahead of 23 by 10", y.later(2), 29, y, 0);
            LotLedger z = Check.of(HEAD + "buy 0 0 1 20;sell 0 5 1 10 first");
            s.due("0", z.later(1), 0, z, 0);
        });
        s.test("Promise 30", "and none is SHORT", () -> {
            LotLedger x = Check.of("ledger window 2;buy 0 0 2 20;sell 0 1 2 10 first;buy 0 1 1 1;sell 0 3 1 5 last;buy 0 3 1 1;sell 0 3 1 9 last");
            s.due("the other sells go on", x.later(1), laterOf("ledger window 2;buy 0 0 2 20;", ";buy 0 1 1 1;sell 0 3 1 5 last;buy 0 3 1 1;sell 0 3 1 9 last"), x, 0);
            LotLedger y = Check.of("ledger window 10;buy 0 0 2 20;sell 0 5 2 10 last;buy 0 8 2 30;split 0 9 1 2;sell 0 10 1 99 last");
            s.due("never", y.later(1), -2, y, 0);
        });
    }

    /** By texts alone: the first DAY of "sell 0 DAY 2 10 first", from 1 on, on which nothing is DEFERRED. */
    private static int laterOf(String ahead, String behind) {
        for (int days = 0; days <= 99; days++) {
            LotLedger x = new LotLedger();
            if (Check.read(x, ahead + "sell 0 " + (1 + days) + " 2 10 first" + behind) > 0 && x.deferred(1) == 0) {
                return days;
            }
        }
        return -2;
    }

    private void laterEdges() {
        s.test("Promise 30", "(0 .. 99); -2", () -> {
            LotLedger x = Check.of("ledger window 60;buy 0 0 3 20;buy 0 39 1 20;sell 0 1 2 10 first");
            s.due("99", x.later(2), 99, x, 0);
            LotLedger y = Check.of("ledger window 60;buy 0 0 3 20;buy 0 40 1 20;sell 0 1 2 10 first");
            s.due("100", y.later(2), -2, y, 0);
        });
        s.test("Promise 30", "(999 at most); -2", () -> {
            LotLedger x = Check.of("ledger window 5;buy 0 0 1 20;sell 0 993 1 10 first;buy 0 993 1 5");
            s.due("999", x.later(1), 6, x, 0);
            LotLedger y = Check.of("ledger window 5;buy 0 0 1 20;sell 0 994 1 10 first;buy 0 994 1 5");
            s.due("1000", y.later(1), -2, y, 0);
            LotLedger z = Check.of(HEAD + "buy 0 0 1 20;sell 0 999 1 10 first;buy 0 999 1 5");
            s.due("from 999", z.later(1), -2, z, 0);
            LotLedger w = Check.of(HEAD + "buy 0 0 1 20;sell 0 999 1 10 first");
            s.due("at 999", w.later(1), 0, w, 0);
        });
        s.test("Promise 30", "NONE: 1", () -> {
            LotLedger x = Check.of(HALVED);
            for (int t : new int[] {-1, 0, 3, 5, Integer.MIN_VALUE, Integer.MAX_VALUE}) {
                s.due("TRADE " + t, x.later(t), -1, x, 1);
            }
            LotLedger none = new LotLedger();
            s.due("no LEDGER", none.later(0), -1, none, 1);
        });
    }

    private static final String SOLD = HEAD + "buy 0 0 1 10;buy 1 0 1 10;sell 0 1 1 20 first;sell 1 1 1 20 first;";

    private void fits() {
        LotLedger none = new LotLedger();
        s.test("Promise 31", "FITS: how many. NONE: 1 (no LEDGER)", () -> {
            LotLedger x = Check.of("ledger window 0");
            s.due("no unsure one, no gain", x.fits(), 1, x, 0);
            LotLedger y = Check.of(SOLD + "gain 2 up 11");
            s.due("no unsure one, another gain", y.fits(), 0, y, 0);
            LotLedger z = Check.of(SOLD + "unsure 0 1;unsure 1 1;unsure 2 1;unsure 3 1");
            s.due("sixteen", z.fits(), 16, z, 0);
            s.due("no LEDGER", none.fits(), -1, none, 1);
        });
        s.test("Promise 32", "The i-th. NONE: 1 (i, too)", () -> {
            LotLedger x = Check.of(SOLD + "unsure 0 1;unsure 1 1;unsure 2 1;unsure 3 1");
            s.due("the last of sixteen", x.fitAt(15), 15, x, 0);
            for (int i : new int[] {-1, 16, Integer.MIN_VALUE, Integer.MAX_VALUE}) {
                s.due("i " + i, x.fitAt(i), -1, x, 1);
            }
            LotLedger y = Check.of(SOLD + "gain 2 up 11");
            s.due("of none", y.fitAt(0), -1, y, 1);
            LotLedger z = Check.of(SOLD + "gain 2 up 10");
            s.due("the set of none", z.fitAt(0), 0, z, 0);
            s.due("that alone", z.fitAt(1), -1, z, 1);
            s.due("no LEDGER", none.fitAt(0), -1, none, 1);
        });
    }

    private void bits() {
        LotLedger none = new LotLedger();
        s.test("Promise 33", "Unsure ones in some, as bits. NONE: 1 (no LEDGER)", () -> {
            LotLedger x = Check.of(SOLD + "unsure 0 1;unsure 1 1;unsure 2 30;unsure 3 9;gain 2 up 20;gain 3 up 10");
            s.due("the third", x.could(), 4, x, 0);
            LotLedger y = Check.of(SOLD + "unsure 0 20;unsure 1 1;unsure 2 30;unsure 3 1;gain 2 up 10;gain 3 up 0");
            s.due("two sets", y.fits(), 2);
            s.due("the second and fourth alone, and all", y.could(), 15, y, 0);
            s.due("in both", y.surely(), 10, y, 0);
            LotLedger z = Check.of(SOLD + "unsure 0 1;gain 2 up 11");
            s.due("without a set", z.could(), 0, z, 0);
            s.due("no LEDGER", none.could(), -1, none, 1);
        });
        s.test("Promise 34", "Unsure ones in all (0 without a set), as bits. NONE: 1 (no LEDGER)", () -> {
            LotLedger x = Check.of(SOLD + "unsure 3 30;unsure 2 30;unsure 0 1;gain 3 up 20;gain 2 up 20");
            s.due("two of three", x.surely(), 3, x, 0);
            s.due("in some", x.could(), 3, x, 0);
            LotLedger y = Check.of(SOLD + "unsure 0 1;gain 2 up 11");
            s.due("without a set", y.surely(), 0, y, 0);
            LotLedger z = Check.of(SOLD + "unsure 0 1");
            s.due("in one of two", z.surely(), 0, z, 0);
            LotLedger v = Check.of(HEAD + "buy 0 0 1 10;buy 0 1 1 10;buy 0 2 1 10;sell 0 9 3 20 last;unsure 0 15;unsure 1 15;unsure 2 15;gain 3 up 20");
            s.due("in two of three each", v.surely(), 0, v, 0);
            LotLedger w = Check.of("ledger window 0");
            s.due("without an unsure one", w.surely(), 0, w, 0);
            s.due("no LEDGER", none.surely(), -1, none, 1);
        });
    }

    private void asks() {
        LotLedger none = new LotLedger();
        LotLedger sure = Check.of(SOLD + "gain 2 up 10");
        LotLedger wrong = Check.of(SOLD + "unsure 0 1;gain 2 up 11");
        LotLedger one = Check.of(SOLD + "unsure 1 1;unsure 0 1;gain 3 up 10");
        LotLedger four = Check.of(SOLD + "unsure 0 1;unsure 1 1;unsure 2 1;unsure 3 1");
        s.test("Promise 35", "ASK; -2 no FITS, no unsure one. NONE: 1 (no LEDGER)", () -> {
            s.due("no unsure one", sure.ask(), -2, sure, 0);
            s.due("no FITS", wrong.ask(), -2, wrong, 0);
            s.due("the second", one.ask(), 1, one, 0);
            s.due("the first of four like ones", four.ask(), 0, four, 0);
            LotLedger x = Check.of(SOLD + "unsure 0 1;gain 2 up 10");
            s.due("one that is sure", x.ask(), 0, x, 0);
            s.due("no LEDGER", none.ask(), -1, none, 1);
        });
        s.test("Promise 36", "How many are left at most then; -2 likewise. NONE: 1 (no LEDGER)", () -> {
            s.due("no unsure one", sure.askLeaves(), -2, sure, 0);
            s.due("no FITS", wrong.askLeaves(), -2, wrong, 0);
            s.due("one of two", one.askLeaves(), 1, one, 0);
            s.due("eight of sixteen", four.askLeaves(), 8, four, 0);
            LotLedger x = Check.of(SOLD + "unsure 0 1;gain 2 up 10");
            s.due("one of one", x.askLeaves(), 1, x, 0);
            s.due("no LEDGER", none.askLeaves(), -1, none, 1);
        });
    }

    private void judge() {
        s.test("Promise 37", "The first gain, as told, that isn't so by PRICES as told; -2", () -> {
            s.due("none told", Check.of(SOLD.substring(0, SOLD.length() - 1)).judge(), -2);
            s.due("both are so", Check.of(SOLD + "gain 3 up 10;gain 2 up 10").judge(), -2);
            s.due("neither", Check.of(SOLD + "gain 3 up 9;gain 2 up 9").judge(), 0);
            s.due("the second", Check.of(SOLD + "gain 3 up 10;gain 2 up 9").judge(), 1);
            s.due("below 0", Check.of(SOLD + "gain 3 down 10").judge(), 0);
            String six = HEAD + "buy 0 0 9 1;" + "sell 0 0 1 3 first;".repeat(6);
            s.due("the sixth", Check.of(six + "gain 6 up 2;gain 5 up 2;gain 4 up 2;gain 3 up 2;gain 2 up 2;gain 1 up 1").judge(), 5);
        });
        s.test("Promise 37", "by PRICES as told", () -> {
            LotLedger x = Check.of(SOLD + "unsure 2 19;gain 2 up 9");
            s.due("the other one fits", x.fits(), 1);
            s.due("it isn't so", x.judge(), 0, x, 0);
            x.buy(0, 0, 1, 11);
            x.rule(2, 1);
            s.due("GAIN NOW", x.gain(2), 9);
            s.due("nor NOW", x.judge(), 0, x, 0);
            x.strike(2);
            s.due("nor without it", x.judge(), 0, x, 0);
        });
        s.test("Promise 37", "NONE: 1 (no LEDGER)", () -> {
            LotLedger none = new LotLedger();
            s.due("judge", none.judge(), -1, none, 1);
        });
    }

    private void drawn() {
        LotLedger none = new LotLedger();
        LotLedger x = Check.of(HEAD + "buy 2 0 20 50");
        int[] noSeeds = {-1, 65537, Integer.MIN_VALUE, Integer.MAX_VALUE};
        int[] noCounts = {-1, 13, Integer.MIN_VALUE, Integer.MAX_VALUE};
        s.test("Promise 38", "n TRADES (0 .. 12) by a SEED (0 .. 65,536)", () -> {
            s.due("n 0", x.drawnGains(13, 0), 0, x, 0);
            s.due("n 1", x.drawnGains(13, 1), 320, x, 0);
            s.due("n 12", x.drawnGains(13, 12) >= 320, true, x, 0);
            s.due("SEED 0", x.drawnGains(0, 1), 0, x, 0);
            s.due("SEED 65,536", x.drawnGains(65536, 12), 0, x, 0);
            s.due("nothing is BOOKED for good", x.gains(), 0, x, 0);
            s.due("nothing to undo", x.size(5), 0);
        });
        s.test("Promise 38", "0: 1 (no LEDGER); 2 (trouble() tells)", () -> {
            for (int seed : noSeeds) {
                s.due("SEED " + seed, x.drawnGains(seed, 1), 0, x, 2);
                s.due("1 ahead of 2", none.drawnGains(seed, 1), 0, none, 1);
            }
            for (int n : noCounts) {
                s.due("n " + n, x.drawnGains(13, n), 0, x, 2);
                s.due("1 ahead of 2", none.drawnGains(13, n), 0, none, 1);
            }
        });
        s.test("Promise 39", "SHARES of a PAPER then", () -> {
            s.due("n 0", x.drawnHeld(2, 13, 0), 20, x, 0);
            s.due("n 1", x.drawnHeld(2, 13, 1), 0, x, 0);
            s.due("n 12, SEED 65,536", x.drawnHeld(1, 65536, 12), 204, x, 0);
            s.due("SEED 0", x.drawnHeld(2, 0, 1), 33, x, 0);
            s.due("held", x.held(2), 20, x, 0);
        });
        s.test("Promise 39", "NONE: 1; 2", () -> {
            for (int seed : noSeeds) {
                s.due("SEED " + seed, x.drawnHeld(0, seed, 1), -1, x, 2);
            }
            for (int n : noCounts) {
                s.due("n " + n, x.drawnHeld(0, 13, n), -1, x, 2);
            }
            for (int p : NO_PAPERS) {
                s.due("PAPER " + p, x.drawnHeld(p, 13, 1), -1, x, 1);
                s.due("1 ahead of 2", x.drawnHeld(p, -1, 13), -1, x, 1);
            }
            s.due("no LEDGER", none.drawnHeld(0, 13, 1), -1, none, 1);
        });
    }
}
