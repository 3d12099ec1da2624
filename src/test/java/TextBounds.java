/** The boundary cases of "Terms" I: the text of a LEDGER and its FAULTS. */
final class TextBounds {
    private static final String HEAD = "ledger window 0;";
    private static final String SOLD = HEAD + "buy 0 0 9 1;sell 0 1 1 1 first;split 0 2 1 1;";
    private final Sentences s;

    TextBounds(Sentences sentences) {
        s = sentences;
    }

    void run() {
        tape();
        tokens();
        lines();
        trades();
        unsureAndGains();
        form();
        untoldAndAgain();
        bounds();
        many();
        lacksAndShort();
        firstFromTheLeft();
    }

    private static String times(String line, int n) {
        return (line + ";").repeat(n);
    }

    private void tape() {
        s.test("Terms I", "THE TAPE has 900 bytes", () -> {
            LotLedger x = new LotLedger();
            s.due("the last of 900 bytes is read", Check.read(x, " ".repeat(885) + "ledger window 7"), 0, x, 0);
            s.due("window", x.size(0), 7);
        });
        s.test("Terms I", "blanks part TOKENS", () -> {
            s.fault("ledger window 1 1", 1, 16);
            s.fault("led ger window 1", 1, 0);
            s.fault("ledger win dow 1", 1, 7);
            s.fault(HEAD + "sell 0 0 1 1 fir st", 1, 29);
        });
        s.test("Terms I", "and mean nothing else", () -> {
            s.good("   ledger   window   0   ;   buy   0   0   1   1   ", 1);
            s.good("ledger window0;buy0 0 1 1;sell0 0 1 1first", 2);
            s.fault("    ", 1, 4);
        });
        s.test("Terms I", "blanks, 32", () -> {
            for (int other : new int[] {0, 9, 10, 13, 31, 33, 95, 127, 128, 160, 255}) {
                s.fault("ledger" + (char) other + "window 1", 1, 6);
            }
        });
    }

    private void tokens() {
        s.test("Terms I", "WORDS of 1 to 8", () -> {
            s.good(HEAD + "buy 0 0 1 1;sell 0 0 1 1 cheapest", 2);
            s.fault(HEAD + "buy 0 0 1 1;sell 0 0 1 1 cheapests", 1, 41);
            s.fault(HEAD + "buy 0 0 1 1;sell 0 0 1 1 cheapestcheapest", 1, 41);
            s.fault(HEAD + "buy 0 0 1 1;sell 0 0 1 1 f", 1, 41);
            s.fault("l", 1, 0);
            s.fault("abcdefgh", 1, 0);
        });
        s.test("Terms I", "small letters", () -> {
            for (char other : new char[] {'A', 'L', 'Z', '@', '[', '`', '{'}) {
                s.fault("ledger" + other + "window 1", 1, 6);
            }
            s.fault("ledgera window 1", 1, 0);
            s.fault("ledgerz window 1", 1, 0);
            s.fault("LEDGER WINDOW 1", 1, 0);
        });
        s.test("Terms I", "WORDS of letters that stand together", () -> {
            s.fault("ledgerwindow 1", 1, 0);
            s.fault("ledgers window 1", 1, 0);
            s.fault("ledge window 1", 1, 0);
            s.fault("wedger window 1", 1, 0);
            s.fault("ledger mindow 1", 1, 7);
            s.fault(HEAD + "guy 0 0 1 1", 1, 16);
            s.fault(HEAD + "bell 0 0 1 1 first", 1, 16);
            s.fault(HEAD + "aplit 0 0 1 1", 1, 16);
            s.fault(SOLD + "ensure 1 1", 1, SOLD.length());
            s.fault(SOLD + "main 1 up 1", 1, SOLD.length());
            s.fault(SOLD + "gain 1 op 1", 1, SOLD.length() + 7);
            s.fault(SOLD + "gain 1 town 1", 1, SOLD.length() + 7);
            s.fault(SOLD + "sell 0 0 1 1 fast", 1, SOLD.length() + 13);
        });
        s.test("Terms I", "WHOLES of 1 to 6 digits", () -> {
            s.good("ledger window 000060", 0);
            s.good("ledger window 9", 0);
            s.fault("ledger window 0000060", 1, 14);
            s.fault("ledger window 0000000000000000000060", 1, 14);
            s.fault(SOLD + "gain 1 up 1000000", 1, SOLD.length() + 10);
            s.fault("ledger window 5/", 1, 15);
            s.fault("ledger window 5:", 1, 15);
        });
        s.test("Terms I", "WHOLES of digits that stand together", () -> {
            s.fault(HEAD + "buy 00 1 1", 1, 26);
            s.good(HEAD + "buy 00 0 1 1", 1);
        });
        s.test("Terms I", "single ones of ;", () -> {
            s.fault("ledger window 0;;buy 0 0 1 1", 1, 16);
            s.fault("ledger window 0; ;buy 0 0 1 1", 1, 17);
        });
    }

    private void lines() {
        s.test("Terms I", "LINE {; LINE}", () -> {
            s.good("ledger window 0", 0);
            s.fault("", 1, 0);
            s.fault(";", 1, 0);
            s.fault("ledger window 0;", 1, 16);
            s.fault("ledger window 0; ", 1, 17);
            s.fault(";ledger window 0", 1, 0);
            s.fault("ledger window 0 buy 0 0 1 1", 1, 16);
            s.fault("ledger window 0;buy 0 0 1 1 sell 0 0 1 1 first", 1, 28);
        });
        s.test("Terms I", "ledger window WHOLE (days, 0 .. 60)", () -> {
            s.due("0", Check.of("ledger window 0").size(0), 0);
            s.due("60", Check.of("ledger window 60").size(0), 60);
            s.fault("ledger window 61", 4, 14);
            s.fault("ledger window 999999", 4, 14);
        });
        s.test("Terms I", "ahead of all others", () -> {
            s.good("ledger window 0;buy 0 0 1 1", 1);
            s.fault("buy 0 0 1 1;ledger window 0", 6, 0);
        });
    }

    private void trades() {
        s.test("Terms I", "numbered from 0", () -> {
            LotLedger x = Check.of(HEAD + "buy 2 0 1 1;buy 1 0 1 1");
            s.due("trade 0", x.trade(0, 1), 2);
            s.due("trade 1", x.trade(1, 1), 1);
            s.good(HEAD + "buy 0 0 1 1;unsure 0 1", 1);
            s.fault(HEAD + "buy 0 0 1 1;unsure 1 1", 2, 35);
        });
        s.test("Terms I", "PAPER 0 .. 2", () -> {
            for (String sort : new String[] {"buy", "sell", "split"}) {
                s.fault(HEAD + sort + " 3 0 1 1", 4, 17 + sort.length());
                s.fault(HEAD + sort + " 999999 0 1 1", 4, 17 + sort.length());
            }
            s.good(HEAD + "buy 0 0 1 1;buy 2 0 1 1;split 0 0 1 1;split 2 0 1 1;sell 0 0 1 1 last;sell 2 0 1 1 last", 6);
        });
        s.test("Terms I", "DAY 0 .. 999", () -> {
            for (String sort : new String[] {"buy", "sell", "split"}) {
                s.fault(HEAD + sort + " 0 1000 1 1", 4, 19 + sort.length());
            }
            s.good(HEAD + "buy 0 0 1 1;buy 0 999 1 1;split 0 0 1 1;split 0 999 1 1;sell 0 0 1 1 last;sell 0 999 1 1 last", 6);
        });
        s.test("Terms I", "SHARES 1 .. 999", () -> {
            s.fault(HEAD + "buy 0 0 0 1", 4, 24);
            s.fault(HEAD + "buy 0 0 1000 1", 4, 24);
            s.fault(HEAD + "sell 0 0 0 1 first", 4, 25);
            s.fault(HEAD + "sell 0 0 1000 1 first", 4, 25);
            s.good(HEAD + "buy 0 0 1 1;buy 0 0 999 1;sell 0 0 1 1 first;sell 0 0 999 1 first", 4);
        });
        s.test("Terms I", "PRICE 0 .. 999 each", () -> {
            s.fault(HEAD + "buy 0 0 1 1000", 4, 26);
            s.fault(HEAD + "sell 0 0 1 1000 first", 4, 27);
            s.good(HEAD + "buy 0 0 1 0;buy 0 0 1 999;sell 0 0 1 0 first;sell 0 0 1 999 first", 4);
        });
        s.test("Terms I", "RULE: first, last, dearest, or cheapest", () -> {
            String[] rules = {"first", "last", "dearest", "cheapest"};
            for (int rule = 0; rule < 4; rule++) {
                s.due(rules[rule], Check.of(HEAD + "buy 0 0 1 1;sell 0 0 1 1 " + rules[rule]).trade(1, 5), rule);
            }
            for (String other : new String[] {"up", "firs", "firsts", "lasts", "las", "dear", "cheap", "fist", "cheapesx", "0"}) {
                s.fault(HEAD + "buy 0 0 1 1;sell 0 0 1 1 " + other, 1, 41);
            }
            s.fault(HEAD + "buy 0 0 1 1;sell 0 0 1 1", 1, 40);
            s.fault(HEAD + "buy 0 0 1 1 first", 1, 28);
        });
        s.test("Terms I", "A for B, 1 .. 9", () -> {
            s.fault(HEAD + "split 0 0 0 1", 4, 26);
            s.fault(HEAD + "split 0 0 10 1", 4, 26);
            s.fault(HEAD + "split 0 0 1 0", 4, 28);
            s.fault(HEAD + "split 0 0 1 10", 4, 28);
            s.good(HEAD + "split 0 0 1 9;split 0 0 9 1", 2);
        });
        s.test("Terms I", "up to 16", () -> {
            String sixteen = HEAD + times("buy 0 0 1 1", 15) + "sell 0 0 1 1 first";
            s.good(sixteen, 16);
            s.fault(sixteen + ";buy 0 0 1 1", 5, sixteen.length() + 1);
            s.fault(sixteen + ";sell 0 0 1 1 first", 5, sixteen.length() + 1);
            s.fault(sixteen + ";split 0 0 1 1", 5, sixteen.length() + 1);
        });
        s.test("Terms I", "of them up to 4 splits", () -> {
            String four = HEAD + times("split 0 0 1 1", 3) + "split 2 0 1 1";
            s.good(four + ";" + times("buy 0 0 1 1", 11) + "buy 0 0 1 1", 16);
            s.fault(four + ";split 1 0 1 1", 5, four.length() + 1);
        });
    }

    private void unsureAndGains() {
        s.test("Terms I", "unsure: a buy or sell told ahead", () -> {
            s.good(SOLD + "unsure 0 1;unsure 1 1", 3);
            s.fault(SOLD + "unsure 3 1;buy 0 0 1 1", 2, SOLD.length() + 7);
        });
        s.test("Terms I", "unsure: whose PRICE may be that, 0 .. 999", () -> {
            s.good(SOLD + "unsure 0 0;unsure 1 999", 3);
            s.fault(SOLD + "unsure 0 1000", 4, SOLD.length() + 9);
            s.fault(SOLD + "unsure 1 999999", 4, SOLD.length() + 9);
        });
        s.test("Terms I", "unsure: each once", () -> {
            s.fault(SOLD + "unsure 0 2;unsure 0 3", 3, SOLD.length() + 18);
            s.fault(SOLD + "unsure 1 2;unsure 0 3;unsure 1 2", 3, SOLD.length() + 29);
        });
        s.test("Terms I", "unsure: up to 4", () -> {
            String four = HEAD + times("buy 0 0 1 1", 5) + times("unsure 4 1;unsure 1 1;unsure 2 1;unsure 3 1", 1);
            s.due("four", Check.of(four.substring(0, four.length() - 1)).size(3), 4);
            s.fault(four + "unsure 0 1", 5, four.length());
        });
        s.test("Terms I", "gain: a sell told ahead", () -> {
            s.good(SOLD + "gain 1 up 0", 3);
            s.fault(SOLD + "gain 3 up 0;sell 0 3 1 1 first", 2, SOLD.length() + 5);
        });
        s.test("Terms I", "gain: WAY: up, or down", () -> {
            s.due("up", Check.of(HEAD + "buy 0 0 1 0;sell 0 0 1 7 first;gain 1 up 7").judge(), -2);
            s.due("down", Check.of(HEAD + "buy 0 0 1 7;sell 0 0 1 0 first;gain 1 down 7").judge(), -2);
            s.fault(SOLD + "gain 1 u 0", 1, SOLD.length() + 7);
            s.fault(SOLD + "gain 1 ups 0", 1, SOLD.length() + 7);
            s.fault(SOLD + "gain 1 downs 0", 1, SOLD.length() + 7);
            s.fault(SOLD + "gain 1 first 0", 1, SOLD.length() + 7);
            s.fault(SOLD + "gain 1 0", 1, SOLD.length() + 7);
        });
        s.test("Terms I", "gain: its GAIN, 0 .. 999,999, or below 0 by so much", () -> {
            s.good(SOLD + "gain 1 up 999999", 3);
            s.good(SOLD + "gain 1 down 999999", 3);
            s.due("998001", Check.of(HEAD + "buy 0 0 999 0;sell 0 0 999 999 last;gain 1 up 998001").judge(), -2);
            s.due("below 0 by 998001", Check.of(HEAD + "buy 0 0 999 999;sell 0 1 999 0 last;gain 1 down 998001").judge(), -2);
            s.due("up 0", Check.of(HEAD + "buy 0 0 1 1;sell 0 0 1 1 last;gain 1 up 0").judge(), -2);
            s.due("down 0", Check.of(HEAD + "buy 0 0 1 1;sell 0 0 1 1 last;gain 1 down 0").judge(), -2);
        });
        s.test("Terms I", "gain: each once", () -> s.fault(SOLD + "gain 1 up 0;gain 1 up 0", 3, SOLD.length() + 17));
        s.test("Terms I", "gain: up to 6", () -> {
            String sells = HEAD + "buy 0 0 9 1;" + times("sell 0 0 1 1 first", 7);
            String six = sells + "gain 7 up 0;gain 6 up 0;gain 5 up 0;gain 4 up 0;gain 3 up 0;gain 2 up 0";
            s.due("six", Check.of(six).size(4), 6);
            s.fault(six + ";gain 1 up 0", 5, six.length() + 1);
        });
    }

    /** Each TOKEN of each LINE in turn is another one, or none. */
    private void form() {
        s.test("Terms I", "1 FORM: the first byte that begins no TOKEN", () -> {
            for (String line : LINES) {
                String[] tokens = line.split(" ");
                for (int i = 0; i < tokens.length; i++) {
                    String ahead = upTo(tokens, i);
                    s.fault(ahead + "?", 1, ahead.length());
                    s.fault(ahead + "0000000", 1, ahead.length());
                    s.fault(ahead + "abcdefghi", 1, ahead.length());
                }
                s.fault(SOLD + line + "-", 1, SOLD.length() + line.length());
            }
        });
        s.test("Terms I", "1 FORM: TOKEN with which no LEDGER goes on", () -> {
            for (String line : LINES) {
                String[] tokens = line.split(" ");
                for (int i = 0; i < tokens.length; i++) {
                    String ahead = upTo(tokens, i);
                    boolean whole = tokens[i].charAt(0) <= '9';
                    s.fault(ahead + (whole ? "ledger" : "1"), 1, ahead.length());
                    s.fault(ahead + "x", 1, ahead.length());
                    s.fault(ahead + ";", 1, ahead.length());
                }
                s.fault(SOLD + line + " 1", 1, SOLD.length() + line.length() + 1);
                s.fault(SOLD + line + " first", 1, SOLD.length() + line.length() + 1);
                s.fault(SOLD + line + " buy 0 0 1 1", 1, SOLD.length() + line.length() + 1);
            }
            s.fault("ledger ledger 0", 1, 7);
            s.fault("window 0", 1, 0);
            s.fault(HEAD + "window 0", 1, 16);
        });
        s.test("Terms I", "1 FORM: the end: its place", () -> {
            for (String line : LINES) {
                String[] tokens = line.split(" ");
                for (int i = 1; i < tokens.length; i++) {
                    String ahead = upTo(tokens, i);
                    s.fault(ahead, 1, ahead.length());
                    s.fault(ahead.trim(), 1, ahead.length() - 1);
                }
            }
            s.fault("ledger", 1, 6);
            s.fault("ledger window", 1, 13);
        });
    }

    private static final String[] LINES = {"buy 0 0 1 1", "sell 0 5 1 1 last", "split 0 5 1 1", "unsure 0 1", "gain 1 up 0"};

    private static String upTo(String[] tokens, int i) {
        StringBuilder text = new StringBuilder(SOLD);
        for (int k = 0; k < i; k++) {
            text.append(tokens[k]).append(' ');
        }
        return text.toString();
    }

    private void untoldAndAgain() {
        s.test("Terms I", "2 a TRADE that isn't told (whatever the WHOLE); at it", () -> {
            for (int whole : new int[] {3, 4, 16, 999, 1000, 999999}) {
                s.fault(SOLD + "unsure " + whole + " 1", 2, SOLD.length() + 7);
                s.fault(SOLD + "gain " + whole + " up 1", 2, SOLD.length() + 5);
            }
            s.fault(HEAD + "unsure 0 1", 2, 23);
            s.fault(HEAD + "gain 0 up 1", 2, 21);
        });
        s.test("Terms I", "2 or is of another sort; at it", () -> {
            s.fault(SOLD + "unsure 2 1", 2, SOLD.length() + 7);
            s.fault(SOLD + "gain 0 up 1", 2, SOLD.length() + 5);
            s.fault(SOLD + "gain 2 up 1", 2, SOLD.length() + 5);
        });
        s.test("Terms I", "3 a TRADE unsure told already; at it", () -> {
            s.fault(SOLD + "unsure  0 1;unsure   0 1", 3, SOLD.length() + 21);
            s.fault(SOLD + "unsure 1 1;unsure 1 x", 3, SOLD.length() + 18);
            s.good(SOLD + "unsure 1 1;gain 1 up 0", 3);
        });
        s.test("Terms I", "3 a gain told already; at it", () -> {
            s.fault(SOLD + "gain  1 up 1;gain   1 x", 3, SOLD.length() + 20);
            s.good(SOLD + "gain 1 up 0;unsure 1 1", 3);
        });
        s.test("Terms I", "3 a second ledger: at that WORD", () -> {
            s.fault("ledger window 0;ledger window 0", 3, 16);
            s.fault("ledger window 0; ledger window 61", 3, 17);
            s.fault(SOLD + "ledger x", 3, SOLD.length());
        });
    }

    private void bounds() {
        s.test("Terms I", "4 a WHOLE out of bounds; at it", () -> {
            s.fault("ledger window  61 ", 4, 15);
            s.fault(HEAD + "buy  3 0 1 1", 4, 21);
            s.fault(HEAD + "buy 0  1000 1 1", 4, 23);
            s.fault(HEAD + "buy 0 0  0 1", 4, 25);
            s.fault(HEAD + "buy 0 0 1  1000", 4, 27);
            s.fault(HEAD + "split 0 0  0 1", 4, 27);
            s.fault(HEAD + "split 0 0 1  0", 4, 29);
            s.fault(SOLD + "unsure 0  1000", 4, SOLD.length() + 10);
            s.fault("ledger window 000061", 4, 14);
        });
    }

    private void many() {
        s.test("Terms I", "5 MANY: a LINE more of its sort than there is room for, at its first WORD", () -> {
            String sixteen = HEAD + times("buy 0 0 1 1", 16);
            s.fault(sixteen + "  sell", 5, sixteen.length() + 2);
            s.fault(sixteen + "buy x", 5, sixteen.length());
            s.fault(sixteen + "buy 3", 5, sixteen.length());
            String four = HEAD + times("split 0 0 1 1", 4);
            s.fault(four + " split ?", 5, four.length() + 1);
            String unsure = sixteen + "unsure 0 1;unsure 1 1;unsure 2 1;unsure 3 1;";
            s.fault(unsure + "unsure 0 1", 5, unsure.length());
            s.fault(unsure + "unsure 99 1", 5, unsure.length());
        });
        s.test("Terms I", "5 MANY: of its sort", () -> {
            String sixteen = HEAD + times("sell 0 1 1 1 first", 6) + times("buy 0 0 1 1", 10);
            String unsure = sixteen + "unsure 0 1;unsure 1 1;unsure 2 1;unsure 3 1";
            s.good(unsure, 16);
            String gains = unsure + ";gain 0 up 1;gain 1 up 1;gain 2 up 1;gain 3 up 1;gain 4 up 1;gain 5 up 1";
            s.good(gains, 16);
            s.fault(gains + ";gain 0 up 1", 5, gains.length() + 1);
        });
    }

    private void lacksAndShort() {
        s.test("Terms I", "6 LACKS: any LINE ahead of the ledger; at its WORD", () -> {
            for (String line : new String[] {"buy", "sell", "split", "unsure", "gain"}) {
                s.fault("  " + line, 6, 2);
                s.fault(line + " ?;ledger window 0", 6, 0);
            }
            s.fault("x;ledger window 0", 1, 0);
        });
        s.test("Terms I", "7 SHORT: some sell has more SHARES than the LOTS of its PAPER have then: at the end", () -> {
            s.good(HEAD + "buy 0 0 5 1;sell 0 0 5 1 first", 2);
            s.fault(HEAD + "buy 0 0 5 1;sell 0 0 6 1 first", 7, 46);
            s.fault(HEAD + "buy 0 0 5 1;sell 0 0 6 1 first  ", 7, 48);
            s.fault(HEAD + "buy 0 0 5 1;buy 1 0 9 1;sell 0 0 6 1 first", 7, 58);
            s.fault(HEAD + "buy 0 0 5 1;sell 0 0 4 1 first;sell 0 0 2 1 first", 7, 65);
            s.fault(HEAD + "buy 0 0 5 1;split 0 0 1 2;sell 0 0 3 1 first", 7, 60);
            s.good(HEAD + "buy 0 0 5 1;split 0 0 1 2;sell 0 0 2 1 first", 3);
        });
        s.test("Terms I", "7 SHORT: then", () -> {
            s.fault(HEAD + "buy 0 1 5 1;sell 0 0 5 1 first", 7, 46);
            s.fault(HEAD + "sell 0 0 5 1 first;buy 0 0 5 1", 7, 46);
            s.good(HEAD + "sell 0 1 5 1 first;buy 0 0 5 1", 2);
        });
        s.test("Terms I", "7 SHORT: when all is told", () -> s.good(HEAD + "sell 0 5 1 1 first;gain 0 up 1;buy 0 5 1 1;buy 0 4 1 0", 3));
    }

    private void firstFromTheLeft() {
        // A LINE each that is met with FAULTS 1 to 5 behind this head, and how far from its first WORD.
        String head = HEAD + "sell 0 0 1 1 first;" + times("split 0 0 1 1", 4);
        String[] faulty = {"buy x", "unsure 9 1", "ledger window 0", "buy 3 0 1 1", "split 0 0 1 1"};
        int[] at = {4, 7, 0, 4, 0};
        s.test("Terms I", "FAULTS, the first that is met from the left", () -> {
            for (int i = 0; i < 5; i++) {
                for (int j = 0; j < 5; j++) {
                    s.fault(head + "buy 0 0 1 1;" + faulty[i] + ";" + faulty[j], i + 1, head.length() + 12 + at[i]);
                }
                s.fault("buy 0 0 1 1;" + HEAD + faulty[i], 6, 0);
            }
            s.fault(head + "buy 0 0 1 1", 7, head.length() + 11);
            s.fault(head + "buy 3 1000 0 1000", 4, head.length() + 4);
        });
        s.test("Terms I", "of one place the least number", () -> {
            s.fault("", 1, 0);
            s.fault(head, 1, head.length());
            s.fault(SOLD + "unsure 1000 1", 2, SOLD.length() + 7);
        });
    }
}
