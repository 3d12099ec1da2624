/** Promises 31 to 39: unsure prices, gains told, and trades by draws. */
public final class FitsTest {
    private static final Check check = new Check();

    public static void main(String[] args) {
        promises31To36();
        noneAndAll();
        asTold();
        withoutLedger();
        promise37();
        promises38And39();
        check.end();
    }

    private static void answers(String name, LotLedger x, int fits, int could, int surely, int ask, int leaves) {
        check.due(name + " fits", x.fits(), fits, x, 0);
        check.due(name + " could", x.could(), could, x, 0);
        check.due(name + " surely", x.surely(), surely, x, 0);
        check.due(name + " ask", x.ask(), ask, x, 0);
        check.due(name + " askLeaves", x.askLeaves(), leaves, x, 0);
    }

    private static void promises31To36() {
        LotLedger x = Check.of(LotsTest.LONG);
        answers("long", x, 2, 3, 1, 1, 1);
        check.due("fitAt 0", x.fitAt(0), 1, x, 0);
        check.due("fitAt 1", x.fitAt(1), 3, x, 0);
        check.due("fitAt 2", x.fitAt(2), -1, x, 1);
        check.due("fitAt -1", x.fitAt(-1), -1, x, 1);
        LotLedger y = Check.of("ledger window 10;buy 0 0 1 20;sell 0 5 1 30 first;buy 0 8 2 30;split 0 9 1 2;sell 0 10 1 99 last;unsure 1 10");
        answers("short by the other price", y, 1, 0, 0, 0, 1);
        check.due("fitAt 0", y.fitAt(0), 0, y, 0);
        String three = "ledger window 0;buy 0 0 1 10;buy 0 1 1 10;buy 0 2 1 10;sell 0 9 3 20 last;unsure 0 15;unsure 1 15;unsure 2 15;";
        LotLedger z = Check.of(three + "gain 3 up 20");
        answers("two of three", z, 3, 7, 0, 0, 2);
        int[] sets = {3, 5, 6};
        for (int i = 0; i < 3; i++) {
            check.due("fitAt " + i, z.fitAt(i), sets[i], z, 0);
        }
    }

    private static void noneAndAll() {
        answers("no unsure one", Check.of("ledger window 0"), 1, 0, 0, -2, -2);
        answers("no gain told", Check.of("ledger window 0;buy 0 0 1 1;buy 0 0 1 1;unsure 0 5;unsure 1 5"), 4, 3, 0, 0, 2);
        String sold = "ledger window 0;buy 0 0 1 10;sell 0 0 1 20 last;";
        answers("no fits", Check.of(sold + "unsure 0 5;gain 1 up 11"), 0, 0, 0, -2, -2);
        answers("no fits, no unsure one", Check.of(sold + "gain 1 up 11"), 0, 0, 0, -2, -2);
        answers("surely", Check.of(sold + "unsure 0 5;gain 1 up 15"), 1, 1, 1, 0, 1);
        answers("down", Check.of(sold + "unsure 1 5;unsure 0 9;gain 1 down 5"), 1, 1, 1, 0, 1);
        answers("up is not down", Check.of(sold + "unsure 1 5;unsure 0 9;gain 1 up 5"), 0, 0, 0, -2, -2);
        answers("down 0", Check.of(sold + "unsure 0 20;gain 1 down 0"), 1, 1, 1, 0, 1);
        answers("the same price", Check.of(sold + "unsure 0 10;gain 1 up 10"), 2, 1, 0, 0, 1);
        answers("deferred losses count", Check.of("ledger window 1;buy 0 0 1 10;sell 0 9 1 20 last;buy 0 9 1 1;unsure 1 5;gain 1 up 0"), 1, 1, 1, 0, 1);
        answers("sixteen", Check.of("ledger window 0;buy 0 0 1 1;buy 0 0 1 1;buy 0 0 1 1;buy 0 0 1 1;unsure 0 5;unsure 1 5;unsure 2 5;unsure 3 5"), 16, 15, 0, 0, 8);
    }

    /** No ACT changes what was told. */
    private static void asTold() {
        LotLedger x = Check.of(LotsTest.LONG);
        check.due("strike", x.strike(7), 7);
        answers("behind a strike", x, 2, 3, 1, 1, 1);
        check.due("judge behind a strike", x.judge(), 0, x, 0);
        check.due("gains behind a strike", x.gains(), -50);
        Check.read(x, "ledger window 0;buy 0 0 1 1;unsure 0 3");
        answers("another ledger", x, 2, 1, 0, 0, 1);
    }

    private static void withoutLedger() {
        LotLedger x = new LotLedger();
        check.due("fits", x.fits(), -1, x, 1);
        check.due("fitAt", x.fitAt(0), -1, x, 1);
        check.due("could", x.could(), -1, x, 1);
        check.due("surely", x.surely(), -1, x, 1);
        check.due("ask", x.ask(), -1, x, 1);
        check.due("askLeaves", x.askLeaves(), -1, x, 1);
        check.due("judge", x.judge(), -1, x, 1);
        check.due("drawnGains", x.drawnGains(-1, 0), 0, x, 1);
        check.due("drawnHeld", x.drawnHeld(0, -1, 0), -1, x, 1);
    }

    private static void promise37() {
        String sold = "ledger window 0;buy 0 0 2 10;sell 0 0 1 20 last;sell 0 0 1 4 last";
        check.due("no gain told", Check.of(sold).judge(), -2);
        check.due("all are so", Check.of(sold + ";gain 2 down 6;gain 1 up 10").judge(), -2);
        check.due("the first, as told", Check.of(sold + ";gain 2 down 5;gain 1 up 10").judge(), 0);
        check.due("the second, as told", Check.of(sold + ";gain 2 down 6;gain 1 up 9").judge(), 1);
        check.due("by prices as told", Check.of(sold + ";unsure 1 19;gain 1 up 9").judge(), 0);
        LotLedger x = Check.of(sold + ";gain 1 up 10");
        check.due("another rule", x.rule(1, 0), 1);
        check.due("judge", x.judge(), -2, x, 0);
    }

    private static void promises38And39() {
        LotLedger x = Check.of("ledger window 5");
        // 0 becomes 74, 5624, 28652, 51790: paper 2, a buy, 13 shares at 90.
        check.due("none drawn", x.drawnHeld(2, 0, 0), 0, x, 0);
        check.due("a buy", x.drawnHeld(2, 0, 1), 13, x, 0);
        check.due("its gains", x.drawnGains(0, 1), 0, x, 0);
        check.due("65536 stays", x.drawnHeld(1, 65536, 12), 204, x, 0);
        LotLedger y = Check.of("ledger window 5;buy 2 3 20 50");
        // 11 becomes 899, 1962, 16150, 31658: paper 2, a sell of 11 at 58; then a buy of 10 at 2.
        check.due("a sell", y.drawnHeld(2, 11, 1), 9, y, 0);
        check.due("its gains", y.drawnGains(11, 1), 88, y, 0);
        check.due("and a buy", y.drawnHeld(2, 11, 2), 19, y, 0);
        // 13 becomes 1049, 13212, 7919, 4166: a sell of 20 at 66; 48 a sell of 20, 55 a sell of 20 at 67.
        check.due("a sell of all", y.drawnGains(13, 1), 320, y, 0);
        y.sell(2, 3, 1, 50, 0);
        check.due("a sell of too many", y.drawnHeld(2, 13, 1), 19, y, 0);
        check.due("isn't booked", y.drawnGains(13, 1), 0, y, 0);
        check.due("nothing is booked for good", y.held(2), 19);
        check.due("on the last day", Check.of("ledger window 5;buy 2 3 20 60;buy 0 8 1 1").drawnGains(11, 1), -4);
        check.due("the last of any number", Check.of("ledger window 5;buy 0 8 1 1;buy 2 3 20 60").drawnGains(11, 1), -4);
        check.due("the last of any number", Check.of("ledger window 5;buy 0 9 1 1;buy 2 3 20 60").drawnGains(11, 1), -22);
        check.due("day 0", Check.of("ledger window 0;buy 2 0 20 60").drawnGains(11, 1), -4);
        check.due("beyond the window", Check.of("ledger window 5;buy 2 3 20 60;buy 0 9 1 1").drawnGains(11, 1), -22);
        check.due("a drawn buy replaces", Check.of("ledger window 0;buy 2 3 11 60;buy 0 9 1 1").drawnGains(11, 2), -2);
        check.due("wrong seed", y.drawnGains(-1, 1), 0, y, 2);
        check.due("wrong seed", y.drawnGains(65537, 1), 0, y, 2);
        check.due("wrong n", y.drawnGains(0, -1), 0, y, 2);
        check.due("wrong n", y.drawnGains(0, 13), 0, y, 2);
        check.due("wrong seed", y.drawnHeld(0, 65537, 1), -1, y, 2);
        check.due("wrong n", y.drawnHeld(0, 0, 13), -1, y, 2);
        check.due("wrong paper", y.drawnHeld(3, 0, 13), -1, y, 1);
        check.due("wrong paper", y.drawnHeld(-1, 0, 1), -1, y, 1);
    }
}
