/** The boundary cases of "Terms" III and IV: FITS, ASK, draws, ACTS, TROUBLE and RULES. */
final class DrawBounds {
    private static final String HEAD = "ledger window 0;";
    private final Sentences s;

    DrawBounds(Sentences sentences) {
        s = sentences;
    }

    void run() {
        fits();
        asks();
        draws();
        drawnDay();
        acts();
        undoing();
        trouble();
    }

    private void sets(String what, LotLedger x, int... sets) {
        s.due(what + ", fits()", x.fits(), sets.length);
        for (int i = 0; i < sets.length; i++) {
            s.due(what + ", fitAt(" + i + ")", x.fitAt(i), sets[i]);
        }
    }

    private void fits() {
        s.test("Terms III", "FITS: sets by which no sell is SHORT", () -> {
            // A buy replaces a part only if the sell is a loss: then both parts are halved to none.
            LotLedger x = Check.of("ledger window 10;buy 0 0 1 20;sell 0 5 1 30 first;buy 0 8 2 30;split 0 9 1 2;sell 0 10 1 99 last;unsure 1 10");
            sets("the other is SHORT", x, 0);
        });
        s.test("Terms III", "each whose gain was told has that GAIN", () -> {
            String two = HEAD + "buy 0 0 1 10;sell 0 1 1 20 first;buy 1 0 1 10;sell 1 1 1 20 first;unsure 0 15;unsure 2 15;";
            sets("one of two gains", Check.of(two + "gain 1 up 5"), 1, 3);
            sets("both", Check.of(two + "gain 1 up 5;gain 3 up 10"), 1);
            sets("by one more", Check.of(two + "gain 1 up 6"));
            sets("by one less", Check.of(two + "gain 1 up 4"));
            sets("the other way", Check.of(two + "gain 1 down 5"));
        });
        s.test("Terms III", "all such, in ascending order as bits", () -> {
            String buys = HEAD + "buy 0 0 1 1;buy 0 0 1 1;buy 0 0 1 1;buy 0 0 1 1";
            sets("no unsure one", Check.of(buys), 0);
            sets("one", Check.of(buys + ";unsure 3 5"), 0, 1);
            sets("four", Check.of(buys + ";unsure 3 5;unsure 2 5;unsure 1 5;unsure 0 5"), 0, 1, 2, 3, 4, 5, 6, 7, 8, 9, 10, 11, 12, 13, 14, 15);
            sets("bits as told", Check.of(buys + ";sell 0 1 1 9 first;unsure 3 5;unsure 0 5;gain 4 up 4"), 2, 3);
            sets("none", Check.of(buys + ";sell 0 1 1 9 first;gain 4 up 7"));
        });
        s.test("Terms III", "(TRADES as told)", () -> {
            LotLedger x = Check.of(HEAD + "buy 0 0 1 10;sell 0 1 1 20 first;unsure 1 5;gain 1 up 10");
            sets("as told", x, 0);
            s.due("a buy ahead", x.buy(0, 0, 1, 3), 2);
            s.due("another RULE", x.rule(1, 3), 0);
            s.due("GAIN NOW", x.gain(1), 17);
            sets("behind ACTS", x, 0);
            s.due("STRIKE", x.strike(1), 2);
            sets("behind STRIKE", x, 0);
        });
    }

    private void asks() {
        String three = HEAD + "buy 0 0 1 10;buy 0 1 1 10;buy 0 2 1 10;sell 0 9 3 20 last;";
        s.test("Terms III", "ASK: by which at most fewest FITS are left", () -> {
            LotLedger x = Check.of(three + "sell 1 9 1 1 last;buy 1 0 1 0;unsure 0 15;unsure 1 16;unsure 2 15;unsure 4 2;gain 3 up 25");
            sets("one of two, and another", x, 1, 4, 9, 12);
            s.due("two of four are left", x.askLeaves(), 2);
            s.due("the first that has them", x.ask(), 0);
            LotLedger y = Check.of(three + "unsure 1 16;unsure 2 15;gain 3 up 25");
            sets("one alone", y, 2);
            LotLedger z = Check.of(HEAD + "buy 0 0 1 10;sell 0 1 1 20 first;buy 1 0 1 1;unsure 0 15;unsure 2 7;gain 1 up 10");
            sets("of the first alone", z, 0, 2);
            s.due("the second", z.ask(), 1);
            s.due("one is left", z.askLeaves(), 1);
        });
        s.test("Terms III", "ASK: the first such", () -> {
            LotLedger x = Check.of(three + "unsure 0 15;unsure 1 15;unsure 2 15;gain 3 up 20");
            sets("two of three", x, 3, 5, 6);
            s.due("of like ones", x.ask(), 0);
            s.due("two of them", x.askLeaves(), 2);
            LotLedger y = Check.of(three + "unsure 0 15;unsure 1 15;gain 3 up 25");
            sets("one of two", y, 1, 2);
            s.due("of two like ones", y.ask(), 0);
        });
    }

    private static long next(long seed) {
        return (75 * seed + 74) % 65537;
    }

    private void draws() {
        s.test("Terms III", "SEED becomes (75 times SEED and 74) mod 65,537", () -> {
            LotLedger x = Check.of("ledger window 0");
            // 0 becomes 74, 5624, 28652, 51790: PAPER 2, a buy, 13 SHARES; 65536 stays what it is: PAPER 1, a buy of 17.
            s.due("0", x.drawnHeld(2, 0, 1), 13);
            s.due("65536", x.drawnHeld(1, 65536, 1), 17);
            s.due("65536, twelve times", x.drawnHeld(1, 65536, 12), 204);
        });
        s.test("Terms III", "a DRAW mod 3: its PAPER; one mod 3: 0 a sell (by first), else a buy; one mod 20, and 1; one mod 100", () -> {
            int[] sold = new int[3];
            for (int seed = 0; seed <= 65536; seed += 31) {
                int paper = (int) (next(seed) % 3);
                boolean sells = next(next(seed)) % 3 == 0;
                int shares = (int) (next(next(next(seed))) % 20 + 1);
                int price = (int) (next(next(next(next(seed)))) % 100);
                LotLedger x = Check.of(HEAD + "buy 0 1 9 5;buy 0 2 90 7;buy 1 1 90 5;buy 2 1 90 5");
                int before = x.held(paper);
                s.due("SHARES by " + seed, x.drawnHeld(paper, seed, 1), sells ? before - shares : before + shares);
                long first = paper == 0 ? Math.min(shares, 9) * 5 + Math.max(shares - 9, 0) * 7 : shares * 5;
                long gain = (long) shares * price - first;
                // A loss is carried into what is left only if that was bought on the DAY of the sell.
                s.due("GAINS by " + seed, x.drawnGains(seed, 1), !sells ? 0 : paper == 0 ? drawnLoss(shares, price) : gain);
                sold[paper] += sells ? 1 : 0;
            }
            s.due("some of each are sold", sold[0] > 0 && sold[1] > 0 && sold[2] > 0, true);
        });
        s.test("Terms III", "a sell of more SHARES than there are isn't BOOKED", () -> {
            // 13 becomes 1049, 13212, 7919, 4166: a sell of 20 of PAPER 2 at 66.
            LotLedger x = Check.of(HEAD + "buy 2 0 20 50");
            s.due("as many", x.drawnHeld(2, 13, 1), 0);
            s.due("its GAIN", x.drawnGains(13, 1), 320);
            LotLedger y = Check.of(HEAD + "buy 2 0 19 50");
            s.due("one more", y.drawnHeld(2, 13, 1), 19);
            s.due("no GAIN", y.drawnGains(13, 1), 0);
            s.due("none at all", Check.of("ledger window 0").drawnHeld(2, 13, 1), 0);
        });
        s.test("Terms III", "n TRADES, those that aren't BOOKED, too", () -> {
            // 13 becomes 4166 behind a sell of 20; then 50376, 42665, 54173, 65292: PAPER 0, a buy of 14.
            LotLedger x = Check.of("ledger window 0");
            s.due("one", x.drawnHeld(0, 13, 1), 0);
            s.due("two", x.drawnHeld(0, 13, 2), 14);
        });
    }

    /** Of nine SHARES for 5 on DAY 1 and ninety for 7 on DAY 2, which is the last DAY: the loss goes into what is left. */
    private static long drawnLoss(int shares, int price) {
        long gain = Math.min(shares, 9) * (price - 5L);
        long more = Math.max(shares - 9, 0) * (price - 7L);
        return Math.max(gain, 0) + Math.max(more, 0);
    }

    private void drawnDay() {
        s.test("Terms III", "behind all others, on the last DAY NOW (0 with none)", () -> {
            // 11 becomes 899, 1962, 16150, 31658: a sell of 11 of PAPER 2 at 58.
            s.due("3 days are beyond the window", Check.of("ledger window 2;buy 2 3 20 60;buy 0 6 1 1").drawnGains(11, 1), -22);
            s.due("2 days are within", Check.of("ledger window 2;buy 2 3 20 60;buy 0 5 1 1").drawnGains(11, 1), -4);
            LotLedger x = Check.of("ledger window 2;buy 2 3 20 60;buy 0 6 1 1");
            s.due("STRIKE the last DAY's", x.strike(1), 1);
            s.due("the last DAY NOW", x.drawnGains(11, 1), -4);
            s.due("a buy behind", x.buy(1, 6, 1, 1), 1);
            s.due("the last DAY NOW", x.drawnGains(11, 1), -22);
            s.due("of whatever number", Check.of("ledger window 2;buy 0 6 1 1;buy 2 3 20 60").drawnGains(11, 1), -22);
            s.due("DAY 0", Check.of("ledger window 0;buy 2 0 20 60").drawnGains(11, 1), -4);
            s.due("behind those of that DAY", Check.of("ledger window 2;buy 2 999 11 60").drawnHeld(2, 11, 1), 0);
        });
        s.test("Terms III", "(0 with none)", () -> {
            NaiveLedger plain = new NaiveLedger();
            plain.feed(word("ledg"), word("er w"), word("indo"), word("w 0 "), word("    "));
            plain.ledger(20);
            LotLedger x = Check.of("ledger window 0");
            for (int seed = 0; seed <= 65536; seed += 257) {
                s.due("GAINS by " + seed, x.drawnGains(seed, 12), plain.drawnGains(seed, 12));
            }
        });
    }

    private static int word(String text) {
        return Check.word(text, 0);
    }

    private void acts() {
        s.test("Terms III", "BOOK a TRADE more (with the next number, on whatever DAY: all is BOOKED anew)", () -> {
            LotLedger x = Check.of("ledger window 5;buy 0 500 1 9;sell 0 600 1 4 first");
            s.due("the next number", x.buy(0, 0, 1, 1), 2);
            s.due("BOOKED first", x.booked(0), 2);
            s.due("all anew", x.gain(1), 3);
            s.due("the last DAY", x.buy(0, 999, 1, 1), 3);
            s.due("BOOKED last", x.booked(3), 3);
            s.due("of a DAY by numbers", x.buy(0, 0, 1, 2), 4);
            s.due("BOOKED second", x.booked(1), 4);
        });
        s.test("Terms III", "STRIKE one (the numbers of those behind are 1 less)", () -> {
            LotLedger x = Check.of(HEAD + "buy 0 0 1 1;buy 1 0 1 2;sell 1 5 1 3 first;buy 2 0 1 4");
            s.due("STRIKE", x.strike(0), 3);
            s.due("the buy of the PIECE", x.piece(1, 0, 1), 0);
            s.due("of the LOT", x.lot(2, 0, 2), 2);
            s.due("no more", x.trade(3, 0), -1, x, 1);
            s.due("all that was told of one behind", x.trade(1, 0) * 10000 + x.trade(1, 2) * 1000 + x.trade(1, 3) * 100 + x.trade(1, 4) * 10 + x.trade(1, 5), 15130);
            LotLedger z = Check.of(HEAD + "buy 0 0 9 1;sell 0 1 1 1 first;sell 0 1 1 1 last;sell 0 1 1 1 cheapest");
            z.strike(1);
            s.due("RULE of one behind", z.trade(1, 5), 1);
            s.due("and of the last", z.trade(2, 5), 3);
            LotLedger y = Check.of(HEAD + "buy 0 0 1 1;buy 1 0 1 2");
            s.due("STRIKE the last", y.strike(1), 1);
            s.due("those ahead stay", y.trade(0, 1), 0);
        });
        s.test("Terms III", "RULE (another one for a sell)", () -> {
            LotLedger x = Check.of(HEAD + "buy 0 0 1 1;buy 0 0 1 2;sell 0 5 1 3 first");
            s.due("RULE", x.rule(2, 1), 0);
            s.due("GAIN", x.gain(2), 1);
        });
        s.test("Terms III", "None by which some sell is SHORT", () -> {
            LotLedger x = Check.of(HEAD + "buy 0 1 5 1;sell 0 9 5 2 first");
            s.due("a sell", x.sell(0, 9, 1, 1, 0), -1, x, 5);
            s.due("a sell ahead", x.sell(0, 1, 1, 1, 0), -1, x, 5);
            s.due("a split", x.split(0, 5, 8, 9), -1, x, 5);
            s.due("STRIKE", x.strike(0), -1, x, 5);
            s.due("none of them", x.size(1), 2);
            s.due("none to undo", x.size(5), 0);
            s.due("GAINS", x.gains(), 5);
            s.due("a sell of all that a buy brings", x.buy(0, 9, 1, 1), 2);
            s.due("is none", x.sell(0, 9, 1, 1, 0), 3, x, 0);
        });
    }

    private void undoing() {
        s.test("Terms III", "UNDO: the latest (16 are kept)", () -> {
            LotLedger x = Check.of("ledger window 0");
            for (int k = 1; k <= 17; k++) {
                s.due("buy " + k, x.buy(0, 0, 1, 1), k - 1);
                s.due("kept behind " + k, x.size(5), Math.min(k, 16));
            }
            for (int k = 16; k >= 1; k--) {
                s.due("UNDO", x.undo(), true, x, 0);
                s.due("left", x.size(1), k);
            }
            s.due("the seventeenth", x.undo(), false, x, 6);
            s.due("stays", x.size(1), 1);
        });
        s.test("Terms III", "UNDO: each of the ACTS", () -> {
            LotLedger x = Check.of(HEAD + "buy 0 0 2 1;sell 0 5 1 3 first");
            x.rule(1, 0);
            x.split(0, 1, 2, 1);
            x.strike(1);
            s.due("STRIKE", x.undo(), true);
            s.due("is undone", x.trade(1, 0), 1);
            s.due("split", x.undo(), true);
            s.due("is undone", x.held(0), 1);
            s.due("RULE", x.undo(), true);
            s.due("is undone", x.size(5), 0);
        });
        s.test("Terms III", "IMAGES: up to 3", () -> {
            LotLedger x = Check.of("ledger window 0");
            for (int k = 0; k < 3; k++) {
                s.due("IMAGE", x.image(), k, x, 0);
            }
            s.due("a fourth", x.image(), -1, x, 3);
            s.due("IMAGES", x.size(6), 3);
        });
        s.test("Terms III", "gone back to one, nothing can be undone", () -> {
            LotLedger x = Check.of("ledger window 0");
            x.buy(0, 0, 1, 1);
            x.image();
            s.due("it can ahead of that", x.size(5), 1);
            s.due("back", x.back(0), true);
            s.due("it can't", x.undo(), false, x, 6);
            x.buy(0, 0, 1, 1);
            s.due("a new ACT can", x.undo(), true, x, 0);
        });
    }

    private void trouble() {
        s.test("Terms IV", "0 it wasn't", () -> {
            s.due("new", new LotLedger().trouble(), 0);
            for (int call = 0; call < 41; call++) {
                LotLedger x = Check.of(LotsTest.LONG);
                x.buy(1, 0, 1, 1);
                x.image();
                s.due("refused", x.held(3), -1, x, 1);
                ActsTest.callRightly(x, call);
                s.due("call " + call, x.trouble(), 0);
            }
        });
        s.test("Terms IV", "1 there is none such", () -> {
            LotLedger x = new LotLedger();
            s.due("held", x.held(0), -1, x, 1);
        });
        s.test("Terms IV", "2 a number", () -> {
            LotLedger x = new LotLedger();
            s.due("ledger", x.ledger(1), -1, x, 2);
        });
        s.test("Terms IV", "3 no room", () -> {
            LotLedger x = Check.of(HEAD + "split 0 0 1 1;split 0 0 1 1;split 0 0 1 1;split 0 0 1 1");
            s.due("split", x.split(0, 0, 1, 1), -1, x, 3);
        });
        s.test("Terms IV", "4 a FAULT", () -> {
            LotLedger x = new LotLedger();
            s.due("ledger", x.ledger(0), -1, x, 4);
        });
        s.test("Terms IV", "5 not so", () -> {
            LotLedger x = Check.of("ledger window 0");
            s.due("sell", x.sell(0, 0, 1, 1, 0), -1, x, 5);
        });
        s.test("Terms IV", "6 there is none", () -> {
            LotLedger x = new LotLedger();
            s.due("undo", x.undo(), false, x, 6);
        });
        s.test("Terms IV", "of the latest call that may be refused (those of which a number is told here)", () -> {
            LotLedger x = Check.of("ledger window 0");
            for (int k = 0; k < 45; k++) {
                x.feed(0, 0, 0, 0, 0);
            }
            s.due("UNDO", x.undo(), false, x, 6);
            s.due("feed() tells none", x.feed(0, 0, 0, 0, 0), -1, x, 6);
            s.due("led() tells none", Check.led(x, 0), -99, x, 6);
            s.due("size() tells none", x.size(8), -1, x, 6);
            s.due("fault() tells none", x.fault(), 0, x, 6);
            s.due("where() tells none", x.where(), -1, x, 6);
        });
        s.test("Terms IV", "RULES: 0 first, 1 last, 2 dearest, 3 cheapest", () -> {
            int[] taken = {1, 3, 2, 4};
            for (int rule = 0; rule < 4; rule++) {
                LotLedger x = Check.of(HEAD + "sell 0 9 1 1 first;buy 0 1 1 5;buy 0 2 1 9;buy 0 4 1 6;buy 0 3 1 2");
                s.due("RULE " + rule, x.rule(0, rule), 0);
                s.due("takes", x.piece(0, 0, 1), taken[rule]);
            }
        });
    }
}
