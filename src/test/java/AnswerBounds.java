/** The boundary cases of promises 1 to 24: the LEDGER, TRADES, LOTS and sells. */
final class AnswerBounds {
    private static final String HEAD = "ledger window 0;";
    private static final int[] NO_PAPERS = {-1, 3, Integer.MIN_VALUE, Integer.MAX_VALUE};
    private final Sentences s;

    AnswerBounds(Sentences sentences) {
        s = sentences;
    }

    void run() {
        newObject();
        feed();
        ledger();
        faultAndWhere();
        trades();
        papers();
        lots();
        mean();
        worthAndChain();
        sells();
        pieces();
        sums();
    }

    private void newObject() {
        s.test("Promise 1", "No LEDGER.", () -> {
            LotLedger x = new LotLedger();
            s.due("trouble", x.trouble(), 0);
            s.due("where", x.where(), -1);
            s.due("fault", x.fault(), 0);
            for (int what = 0; what <= 7; what++) {
                s.due("size " + what, x.size(what), 0);
            }
            s.due("gains", x.gains(), 0, x, 1);
            s.due("cost", x.cost(0), -1, x, 1);
        });
        s.test("Promise 1", "of each object its own", () -> {
            LotLedger x = Check.of("ledger window 7;buy 0 0 1 1");
            LotLedger y = new LotLedger();
            s.due("window", y.size(0), 0);
            s.due("held", y.held(0), -1, y, 1);
            s.due("trouble of the other", x.trouble(), 0);
        });
    }

    private void feed() {
        s.test("Promise 2", "Twenty bytes come behind THE TAPE: how many it has", () -> {
            LotLedger x = new LotLedger();
            for (int k = 1; k <= 45; k++) {
                s.due("feed", x.feed(0, 0, 0, 0, 0), 20 * k);
                s.due("size(7)", x.size(7), 20 * k);
            }
        });
        s.test("Promise 2", "of each number the highest first", () -> {
            LotLedger x = new LotLedger();
            x.feed(0x20202020, 0x6c656467, 0x65722077, 0x696e646f, 0x77203920);
            s.due("ledger", x.ledger(20), 0, x, 0);
            s.due("window", x.size(0), 9);
            x.feed(0x202020ff, 0, 0, 0, 0);
            s.due("ledger", x.ledger(20), -1, x, 4);
            s.due("the lowest is the fourth", x.where(), 3);
            x.feed(0x2020ff20, -1, -1, -1, -1);
            s.due("ledger", x.ledger(20), -1, x, 4);
            s.due("the one above it is the third", x.where(), 2);
        });
        s.test("Promise 2", "NONE, and none comes, if there would be more than 900", () -> {
            LotLedger x = new LotLedger();
            Check.feed(x, " ".repeat(880));
            s.due("900", x.feed(-1, -1, -1, -1, -1), 900);
            s.due("more", x.feed(1, 2, 3, 4, 5), -1);
            s.due("and again", x.feed(1, 2, 3, 4, 5), -1);
            s.due("none comes", x.size(7), 900);
            s.due("all that came is read", x.ledger(900), -1, x, 4);
            s.due("from the first on", x.where(), 880);
            s.due("it is empty then", x.feed(0, 0, 0, 0, 0), 20);
        });
    }

    private void ledger() {
        s.test("Promise 3", "NONE: 2 (THE TAPE stays)", () -> {
            LotLedger x = new LotLedger();
            s.due("1 of none", x.ledger(1), -1, x, 2);
            Check.feed(x, "ledger window 9");
            for (int n : new int[] {-1, 21, 900, Integer.MIN_VALUE, Integer.MAX_VALUE}) {
                s.due("ledger " + n, x.ledger(n), -1, x, 2);
                s.due("THE TAPE", x.size(7), 20);
            }
            s.due("all of it", x.ledger(20), 0, x, 0);
            s.due("window", x.size(0), 9);
        });
        s.test("Promise 3", "The first n bytes of THE TAPE", () -> {
            LotLedger x = new LotLedger();
            Check.feed(x, "ledger window 59;?");
            s.due("15 of them", x.ledger(15), 0, x, 0);
            s.due("window", x.size(0), 5);
            s.due("none of them", x.ledger(0), -1, x, 4);
            s.due("where", x.where(), 0);
            Check.feed(x, "ledger window 5;buy 0 0 1 1");
            s.due("fewer", x.ledger(16), -1, x, 4);
            s.due("the end", x.where(), 16);
        });
        s.test("Promise 3", "(it is empty then)", () -> {
            LotLedger x = new LotLedger();
            Check.feed(x, "ledger window 5;buy 0 0 1 1");
            s.due("15 of 40", x.ledger(15), 0);
            s.due("it is empty", x.size(7), 0);
            s.due("nothing is left", x.ledger(1), -1, x, 2);
            Check.feed(x, "?");
            s.due("a FAULT", x.ledger(1), -1, x, 4);
            s.due("it is empty, too", x.size(7), 0);
        });
        s.test("Promise 3", "how many TRADES", () -> {
            s.good("ledger window 5", 0);
            s.good(HEAD + "buy 0 0 1 1;".repeat(15) + "buy 0 0 1 1", 16);
        });
        s.test("Promise 3", "(nothing to undo, no IMAGES)", () -> {
            LotLedger x = Check.of("ledger window 5");
            x.buy(0, 0, 1, 1);
            x.image();
            s.due("another LEDGER", Check.read(x, "ledger window 6"), 0, x, 0);
            s.due("nothing to undo", x.size(5), 0);
            s.due("no IMAGES", x.size(6), 0);
            s.due("UNDO", x.undo(), false, x, 6);
            s.due("back", x.back(0), false, x, 1);
            s.due("three IMAGES again", x.image() + x.image() + x.image(), 3, x, 0);
        });
        s.test("Promise 3", "are the LEDGER from now on", () -> {
            String sold = "ledger window 0;buy 0 0 1 10;sell 0 0 1 20 first;";
            String[] texts = {sold + "unsure 0 15;unsure 1 25;gain 1 up 10", "ledger window 9;unsure 0 1", "ledger window 0",
                sold + "unsure 1 9", sold + "unsure 0 1;unsure 1 x", sold + "gain 1 up 9", "ledger window 60"};
            int[] unsure = {2, 2, 0, 1, 1, 0, 0};
            int[] gains = {1, 1, 0, 0, 0, 1, 0};
            int[] fits = {2, 2, 1, 2, 2, 0, 1};
            LotLedger x = new LotLedger();
            for (int k = 0; k < texts.length; k++) {
                Check.read(x, texts[k]);
                s.due(texts[k] + ", unsure ones", x.size(3), unsure[k]);
                s.due(texts[k] + ", gains", x.size(4), gains[k]);
                s.due(texts[k] + ", fits()", x.fits(), fits[k], x, 0);
            }
        });
        s.test("Promise 3", "NONE: 4 (the LEDGER stays)", () -> {
            for (String text : new String[] {"", "ledger window 61", "ledger window 7;buy 1 1 1 1;sell 0 0 1 1 first", "ledger window 7;unsure 0 1"}) {
                LotLedger x = Check.of("ledger window 5;buy 0 0 2 3;sell 0 0 1 1 first;unsure 0 4;gain 1 up 0");
                x.buy(0, 0, 1, 1);
                x.image();
                s.due("'" + text + "'", Check.read(x, text), -1, x, 4);
                int[] due = {5, 3, 2, 1, 1, 1, 1, 0};
                for (int what = 0; what <= 7; what++) {
                    s.due("size " + what, x.size(what), due[what]);
                }
                s.due("held", x.held(0), 2);
                s.due("gains", x.gains(), 0);
                s.due("fits", x.fits(), 2);
                s.due("UNDO", x.undo(), true);
            }
            LotLedger y = new LotLedger();
            s.due("without one", Check.read(y, "ledger"), -1, y, 4);
            s.due("there is none", y.gains(), 0, y, 1);
        });
    }

    private void faultAndWhere() {
        s.test("Promise 4", "The FAULT of the latest ledger() not refused by 2", () -> {
            LotLedger x = new LotLedger();
            Check.read(x, "buy");
            s.due("LACKS", x.fault(), 6);
            x.ledger(-1);
            s.due("refused by 2", x.fault(), 6);
            Check.read(x, "ledger window 99");
            s.due("the latest", x.fault(), 4);
            x.gains();
            s.due("behind other calls", x.fault(), 4);
        });
        s.test("Promise 4", "0 without one", () -> {
            LotLedger x = new LotLedger();
            s.due("no ledger()", x.fault(), 0);
            x.ledger(1);
            s.due("one refused by 2", x.fault(), 0);
            Check.read(x, "buy");
            Check.read(x, "ledger window 0");
            s.due("no FAULT", x.fault(), 0);
            x.ledger(1);
            s.due("nor behind one refused by 2", x.fault(), 0);
        });
        s.test("Promise 5", "Its place, if the latest call that may be refused was by 4", () -> {
            LotLedger x = new LotLedger();
            Check.read(x, "  buy");
            s.due("its place", x.where(), 2);
            x.feed(0, 0, 0, 0, 0);
            x.size(-1);
            x.trouble();
            x.fault();
            Check.led(x, 0);
            s.due("behind calls that aren't refused by a number", x.where(), 2);
            Check.read(x, "");
            s.due("the latest one's", x.where(), 0);
        });
        s.test("Promise 5", "NONE else", () -> {
            LotLedger x = new LotLedger();
            s.due("new", x.where(), -1);
            Check.read(x, "ledger");
            x.ledger(-1);
            s.due("by 2", x.where(), -1);
            Check.read(x, "ledger");
            x.gains();
            s.due("by 1", x.where(), -1);
            Check.read(x, "ledger");
            x.undo();
            s.due("by 6", x.where(), -1);
            Check.read(x, "ledger window 5");
            s.due("not refused", x.where(), -1);
            Check.read(x, "ledger");
            x.gains();
            s.due("not refused behind one", x.where(), -1);
            Check.read(x, "ledger");
            x.sell(0, 0, 1, 1, 0);
            s.due("by 5", x.where(), -1);
        });
    }

    private void trades() {
        String text = HEAD + "buy 2 7 999 0;sell 2 999 1 999 dearest;split 1 0 9 8";
        s.test("Promise 6", "0 sort, 1 PAPER, 2 DAY, 3 SHARES (A), 4 PRICE (B), 5 RULE (-2 no sell), 6 as which it is BOOKED (from 0)", () -> {
            LotLedger x = Check.of(text);
            int[][] due = {{0, 2, 7, 999, 0, -2, 1}, {1, 2, 999, 1, 999, 2, 2}, {2, 1, 0, 9, 8, -2, 0}};
            for (int t = 0; t < 3; t++) {
                for (int what = 0; what <= 6; what++) {
                    s.due("trade " + t + " " + what, x.trade(t, what), due[t][what], x, 0);
                }
            }
        });
        s.test("Promise 6", "6 as which it is BOOKED (from 0), NOW", () -> {
            LotLedger x = Check.of(HEAD + "buy 0 5 1 1;buy 0 4 1 1");
            x.buy(0, 9, 1, 1);
            x.buy(0, 9, 1, 1);
            s.due("behind", x.trade(0, 6), 1);
            s.due("STRIKE the one ahead", x.strike(1), 3);
            s.due("the first", x.trade(0, 6), 0);
            s.due("one ahead again", x.buy(0, 0, 1, 1), 3);
            s.due("behind again", x.trade(0, 6), 1);
        });
        s.test("Promise 6", "NONE: 1", () -> {
            LotLedger x = Check.of(text);
            for (int none : new int[] {-1, 3, Integer.MIN_VALUE, Integer.MAX_VALUE}) {
                s.due("trade " + none, x.trade(none, 0), -1, x, 1);
            }
            for (int none : new int[] {-1, 7, Integer.MIN_VALUE, Integer.MAX_VALUE}) {
                s.due("what " + none, x.trade(0, none), -1, x, 1);
            }
            LotLedger y = new LotLedger();
            s.due("no LEDGER", y.trade(0, 0), -1, y, 1);
            LotLedger z = Check.of("ledger window 0");
            s.due("no TRADES", z.trade(0, 0), -1, z, 1);
        });
        s.test("Promise 7", "NONE: 1 (i, too)", () -> {
            LotLedger x = Check.of(text);
            s.due("the last", x.booked(2), 1, x, 0);
            for (int none : new int[] {-1, 3, Integer.MIN_VALUE, Integer.MAX_VALUE}) {
                s.due("booked " + none, x.booked(none), -1, x, 1);
            }
            LotLedger y = new LotLedger();
            s.due("no LEDGER", y.booked(0), -1, y, 1);
            LotLedger z = Check.of("ledger window 0");
            s.due("no TRADES", z.booked(0), -1, z, 1);
        });
    }

    private void papers() {
        LotLedger none = new LotLedger();
        LotLedger empty = Check.of("ledger window 0");
        LotLedger x = Check.of(HEAD + "buy 0 0 999 999;buy 2 0 5 3;sell 2 1 5 3 first");
        s.test("Promise 8", "SHARES of a PAPER. NONE: 1.", () -> {
            s.due("0", x.held(0), 999, x, 0);
            s.due("2, all sold", x.held(2), 0, x, 0);
            s.due("no TRADES", empty.held(2), 0, empty, 0);
            for (int p : NO_PAPERS) {
                s.due("held " + p, x.held(p), -1, x, 1);
            }
            s.due("no LEDGER", none.held(0), -1, none, 1);
        });
        s.test("Promise 9", "COST of all its LOTS. -1: 1.", () -> {
            s.due("0", x.cost(0), 998001, x, 0);
            s.due("2, all sold", x.cost(2), 0, x, 0);
            for (int p : NO_PAPERS) {
                s.due("cost " + p, x.cost(p), -1, x, 1);
            }
            s.due("no LEDGER", none.cost(0), -1, none, 1);
        });
        s.test("Promise 10", "How many LOTS it has. NONE: 1.", () -> {
            s.due("0", x.lots(0), 1, x, 0);
            s.due("2, all sold", x.lots(2), 0, x, 0);
            for (int p : NO_PAPERS) {
                s.due("lots " + p, x.lots(p), -1, x, 1);
            }
            s.due("no LEDGER", none.lots(0), -1, none, 1);
        });
    }

    private void lots() {
        LotLedger none = new LotLedger();
        LotLedger x = Check.of("ledger window 9;buy 1 0 1 9;buy 1 0 1 1;sell 1 20 1 5 first;buy 1 21 2 7");
        s.test("Promise 11", "0 SHARES, 1 since which DAY, 2 its buy, 3 1 if WASHED, 4 CHAIN", () -> {
            int[][] due = {{1, 0, 1, 0, 0}, {1, 21, 3, 1, 1}, {1, 21, 3, 0, 0}};
            for (int i = 0; i < 3; i++) {
                for (int what = 0; what < 5; what++) {
                    s.due("lot " + i + " " + what, x.lot(1, i, what), due[i][what], x, 0);
                }
            }
        });
        s.test("Promise 11", "NONE: 1 (i, too)", () -> {
            for (int p : NO_PAPERS) {
                s.due("PAPER " + p, x.lot(p, 0, 0), -1, x, 1);
            }
            for (int i : new int[] {-1, 3, Integer.MIN_VALUE, Integer.MAX_VALUE}) {
                s.due("i " + i, x.lot(1, i, 0), -1, x, 1);
            }
            for (int what : new int[] {-1, 5, Integer.MIN_VALUE, Integer.MAX_VALUE}) {
                s.due("what " + what, x.lot(1, 0, what), -1, x, 1);
            }
            s.due("of a PAPER without", x.lot(0, 0, 0), -1, x, 1);
            s.due("no LEDGER", none.lot(0, 0, 0), -1, none, 1);
        });
        s.test("Promise 12", "-1: 1 (i, too)", () -> {
            s.due("the first", x.lotCost(1, 0), 1, x, 0);
            s.due("the last", x.lotCost(1, 2), 7, x, 0);
            for (int p : NO_PAPERS) {
                s.due("PAPER " + p, x.lotCost(p, 0), -1, x, 1);
            }
            for (int i : new int[] {-1, 3, Integer.MIN_VALUE, Integer.MAX_VALUE}) {
                s.due("i " + i, x.lotCost(1, i), -1, x, 1);
            }
            s.due("of a PAPER without", x.lotCost(0, 0), -1, x, 1);
            s.due("no LEDGER", none.lotCost(0, 0), -1, none, 1);
        });
    }

    private void mean() {
        s.test("Promise 13", "the upper WHOLE or the lower, in lowest terms", () -> {
            LotLedger x = Check.of(HEAD + "buy 0 0 4 9;buy 0 0 2 3;buy 1 0 6 7;buy 2 0 5 0");
            s.due("42 by 6, upper", x.mean(0, false), 7, x, 0);
            s.due("42 by 6, lower", x.mean(0, true), 1, x, 0);
            s.due("42 by 6, one LOT, upper", x.mean(1, false), 7, x, 0);
            s.due("0 by 5, upper", x.mean(2, false), 0, x, 0);
            s.due("0 by 5, lower", x.mean(2, true), 1, x, 0);
            x.buy(0, 0, 6, 8);
            s.due("90 by 12, upper", x.mean(0, false), 15, x, 0);
            s.due("90 by 12, lower", x.mean(0, true), 2, x, 0);
            x.buy(0, 0, 1, 7);
            s.due("97 by 13, upper", x.mean(0, false), 97, x, 0);
            s.due("97 by 13, lower", x.mean(0, true), 13, x, 0);
        });
        s.test("Promise 13", "(0 by 1 with none)", () -> {
            LotLedger x = Check.of(HEAD + "buy 0 0 3 9;sell 0 0 3 9 first");
            for (int p = 0; p < 3; p++) {
                s.due("upper", x.mean(p, false), 0, x, 0);
                s.due("lower", x.mean(p, true), 1, x, 0);
            }
        });
        s.test("Promise 13", "-1: 1", () -> {
            LotLedger x = Check.of("ledger window 0");
            for (int p : NO_PAPERS) {
                s.due("upper " + p, x.mean(p, false), -1, x, 1);
                s.due("lower " + p, x.mean(p, true), -1, x, 1);
            }
            LotLedger y = new LotLedger();
            s.due("no LEDGER", y.mean(0, true), -1, y, 1);
        });
    }

    private void worthAndChain() {
        s.test("Promise 14", "What all its LOTS would bring at a PRICE (0 .. 999), less their COST", () -> {
            LotLedger x = Check.of(HEAD + "buy 0 0 999 999;split 0 1 9 1;split 0 1 9 1;split 0 1 9 1;split 0 1 9 1");
            s.due("0", x.worth(0, 0), -998001, x, 0);
            s.due("999", x.worth(0, 999), 999L * 6561 * 999 - 998001, x, 0);
            s.due("without LOTS", x.worth(1, 999), 0, x, 0);
        });
        s.test("Promise 14", "0: 1; 2 (trouble() tells)", () -> {
            LotLedger x = Check.of(HEAD + "buy 0 0 1 1");
            for (int price : new int[] {-1, 1000, Integer.MIN_VALUE, Integer.MAX_VALUE}) {
                s.due("PRICE " + price, x.worth(0, price), 0, x, 2);
                s.due("a PAPER first", x.worth(3, price), 0, x, 1);
            }
            for (int p : NO_PAPERS) {
                s.due("PAPER " + p, x.worth(p, 1), 0, x, 1);
            }
            LotLedger y = new LotLedger();
            s.due("no LEDGER", y.worth(0, -1), 0, y, 1);
        });
        s.test("Promise 15", "The longest CHAIN of all LOTS (0 with none)", () -> {
            LotLedger x = Check.of("ledger window 0;buy 2 0 1 9;sell 2 0 1 5 first;buy 2 0 1 9");
            s.due("of the last PAPER", x.chain(), 1, x, 0);
            x.sell(2, 0, 1, 5, 0);
            s.due("with none", x.chain(), 0, x, 0);
            x.buy(2, 0, 1, 9);
            s.due("2", x.chain(), 2, x, 0);
            x.buy(0, 0, 1, 9);
            s.due("not the last LOT's", x.chain(), 2, x, 0);
            LotLedger y = Check.of("ledger window 0");
            s.due("no TRADES", y.chain(), 0, y, 0);
            for (int p = 0; p < 3; p++) {
                String trade = " " + p + " 0 1 5";
                LotLedger z = Check.of("ledger window 0;buy" + trade + "0;sell" + trade + " first;buy" + trade);
                s.due("of PAPER " + p + " alone", z.chain(), 1, z, 0);
            }
        });
        s.test("Promise 15", "NONE: 1 (no LEDGER)", () -> {
            LotLedger y = new LotLedger();
            s.due("chain", y.chain(), -1, y, 1);
        });
    }

    private static final String SOLD = "ledger window 9;buy 0 0 3 9;sell 0 20 2 5 last;split 0 30 1 1;sell 0 40 1 10 first;buy 0 29 1 9";

    private void sells() {
        LotLedger none = new LotLedger();
        LotLedger x = Check.of(SOLD);
        int[] noSells = {-1, 0, 2, 4, 5, 24, Integer.MIN_VALUE, Integer.MAX_VALUE};
        s.test("Promise 16", "GAIN of a sell. 0: 1 (no sell; trouble() tells)", () -> {
            s.due("-8, and 4", x.gain(1), -4, x, 0);
            s.due("1", x.gain(3), 1, x, 0);
            for (int t : noSells) {
                s.due("gain " + t, x.gain(t), 0, x, 1);
            }
            s.due("no LEDGER", none.gain(0), 0, none, 1);
            LotLedger y = Check.of(HEAD + "buy 0 0 1 1;sell 0 0 1 1 first");
            s.due("a GAIN of 0", y.gain(1), 0, y, 0);
            LotLedger z = Check.of(HEAD + "sell 0 1 1 9 first;buy 0 0 1 1");
            s.due("of the first TRADE", z.gain(0), 8, z, 0);
        });
        s.test("Promise 17", "What of it is DEFERRED. -1: 1.", () -> {
            s.due("4 of 8", x.deferred(1), 4, x, 0);
            LotLedger y = Check.of("ledger window 0;sell 0 1 1 9 first;buy 0 0 3 9;sell 0 2 1 5 first;buy 0 2 1 1");
            s.due("0 of the first TRADE", y.deferred(0), 0, y, 0);
            s.due("4 of another", y.deferred(2), 4, y, 0);
            s.due("0", x.deferred(3), 0, x, 0);
            for (int t : noSells) {
                s.due("deferred " + t, x.deferred(t), -1, x, 1);
            }
            s.due("no LEDGER", none.deferred(0), -1, none, 1);
        });
        s.test("Promise 18", "How many PIECES it has. NONE: 1.", () -> {
            s.due("1", x.pieces(1), 1, x, 0);
            for (int t : noSells) {
                s.due("pieces " + t, x.pieces(t), -1, x, 1);
            }
            s.due("no LEDGER", none.pieces(0), -1, none, 1);
        });
    }

    private void pieces() {
        LotLedger none = new LotLedger();
        LotLedger x = Check.of(SOLD);
        int[] noPieces = {-1, 1, Integer.MIN_VALUE, Integer.MAX_VALUE};
        s.test("Promise 19", "0 SHARES, 1 the buy it comes from, 2 CHAIN, 3 SHARES still to be REPLACED (0 if it isn't OPEN)", () -> {
            int[] due = {2, 0, 0, 1};
            int[] gained = {1, 0, 0, 0};
            for (int what = 0; what < 4; what++) {
                s.due("an OPEN one, " + what, x.piece(1, 0, what), due[what], x, 0);
                s.due("one that isn't, " + what, x.piece(3, 0, what), gained[what], x, 0);
            }
        });
        s.test("Promise 19", "NONE: 1 (i, too)", () -> {
            for (int i : noPieces) {
                s.due("i " + i, x.piece(1, i, 0), -1, x, 1);
                s.due("i " + i + " of the next sell", x.piece(3, i, 0), -1, x, 1);
            }
            for (int what : new int[] {-1, 4, Integer.MIN_VALUE, Integer.MAX_VALUE}) {
                s.due("what " + what, x.piece(1, 0, what), -1, x, 1);
            }
            for (int t : new int[] {-1, 0, 2, 4, 5, Integer.MIN_VALUE, Integer.MAX_VALUE}) {
                s.due("TRADE " + t, x.piece(t, 0, 0), -1, x, 1);
            }
            s.due("no LEDGER", none.piece(0, 0, 0), -1, none, 1);
        });
        s.test("Promise 20", "0 COST, 1 PROCEEDS, 2 what was DEFERRED", () -> {
            int[] due = {18, 10, 4};
            for (int what = 0; what < 3; what++) {
                s.due("pieceSum " + what, x.pieceSum(1, 0, what), due[what], x, 0);
            }
        });
        s.test("Promise 20", "-1: 1 (i, too)", () -> {
            for (int i : noPieces) {
                s.due("i " + i, x.pieceSum(1, i, 0), -1, x, 1);
            }
            for (int what : new int[] {-1, 3, Integer.MIN_VALUE, Integer.MAX_VALUE}) {
                s.due("what " + what, x.pieceSum(1, 0, what), -1, x, 1);
            }
            for (int t : new int[] {-1, 0, 2, 4, 5, Integer.MIN_VALUE, Integer.MAX_VALUE}) {
                s.due("TRADE " + t, x.pieceSum(t, 0, 0), -1, x, 1);
            }
            s.due("no LEDGER", none.pieceSum(0, 0, 0), -1, none, 1);
        });
    }

    private void sums() {
        LotLedger none = new LotLedger();
        LotLedger empty = Check.of("ledger window 0");
        LotLedger x = Check.of(SOLD);
        s.test("Promise 21", "All GAINS. 0: 1 (no LEDGER; trouble() tells)", () -> {
            s.due("of two sells", x.gains(), -3, x, 0);
            s.due("of none", empty.gains(), 0, empty, 0);
            s.due("no LEDGER", none.gains(), 0, none, 1);
        });
        s.test("Promise 22", "All that is DEFERRED. -1: 1 (no LEDGER)", () -> {
            s.due("of two sells", x.deferrals(), 4, x, 0);
            s.due("of none", empty.deferrals(), 0, empty, 0);
            s.due("no LEDGER", none.deferrals(), -1, none, 1);
        });
        s.test("Promise 23", "What is LOST by splits. -1: 1 (no LEDGER)", () -> {
            LotLedger y = Check.of(HEAD + "buy 0 0 1 5;buy 1 0 2 3;split 0 1 1 2;split 1 1 1 3;buy 2 0 1 1");
            s.due("of two splits", y.lost(), 11, y, 0);
            s.due("of none", empty.lost(), 0, empty, 0);
            s.due("STRIKE the second", y.strike(3), 4);
            s.due("of the first alone", y.lost(), 5, y, 0);
            s.due("STRIKE the first", y.strike(2), 3);
            s.due("no more", y.lost(), 0, y, 0);
            s.due("UNDO", y.undo() && y.undo(), true);
            s.due("of two again", y.lost(), 11, y, 0);
            LotLedger z = Check.of(HEAD + "buy 0 0 1 7;sell 0 0 1 9 first;split 0 1 1 2");
            s.due("of what was sold", z.lost(), 0, z, 0);
            s.due("no LEDGER", none.lost(), -1, none, 1);
        });
        s.test("Promise 24", "PIECES that are OPEN: how many. NONE: 1 (no LEDGER)", () -> {
            s.due("one", x.open(), 1, x, 0);
            s.due("of none", empty.open(), 0, empty, 0);
            s.due("no LEDGER", none.open(), -1, none, 1);
        });
        s.test("Promise 24", "of all PAPERS and sells", () -> {
            LotLedger y = Check.of(HEAD + "buy 0 0 1 5;buy 0 0 1 5;buy 1 0 1 5;buy 2 0 1 5;sell 0 1 2 1 first;sell 1 1 1 1 first;sell 2 1 1 9 first");
            s.due("three", y.open(), 3, y, 0);
        });
    }
}
