/** Promises 25 to 30: what each rule or window would come to, as of a day, how long to wait. */
public final class WhatIfTest {
    private static final Check check = new Check();
    private static final String HALVED = "ledger window 0;buy 0 0 3 10;buy 0 1 4 20;sell 0 5 1 30 first;split 0 6 1 2;sell 0 7 3 30 first";

    public static void main(String[] args) {
        promise25();
        promise26();
        promise27();
        promise28();
        promise29();
        promise30();
        check.end();
    }

    private static void promise25() {
        LotLedger x = Check.of(HALVED);
        check.due("byRule first", x.byRule(2, 0), 10, x, 0);
        check.due("byRule last", x.byRule(2, 1), 0, x, 5);
        check.due("byRule dearest", x.byRule(2, 2), 0, x, 5);
        check.due("byRule cheapest", x.byRule(2, 3), 10, x, 0);
        check.due("byRule 4", x.byRule(2, 4), 0, x, 2);
        check.due("byRule -1", x.byRule(2, -1), 0, x, 2);
        check.due("byRule of a buy", x.byRule(0, 9), 0, x, 1);
        check.due("byRule of a split", x.byRule(3, 0), 0, x, 1);
        check.due("byRule of none", x.byRule(5, 0), 0, x, 1);
        check.due("byRule of -1", x.byRule(-1, 0), 0, x, 1);
        check.due("all is as it was", x.trade(2, 5), 0);
        check.due("gains are as they were", x.gains(), 10);
        check.due("no act", x.size(5), 0);
    }

    private static void promise26() {
        LotLedger x = Check.of(HALVED);
        check.due("leastRule, two are short", x.leastRule(2), 0, x, 0);
        check.due("leastRule of a buy", x.leastRule(1), -1, x, 1);
        check.due("leastRule of none", x.leastRule(9), -1, x, 1);
        LotLedger y = Check.of("ledger window 0;buy 0 0 1 10;buy 0 1 1 30;buy 0 2 1 20;sell 0 9 1 40 first");
        check.due("least by dearest", y.leastRule(3), 2, y, 0);
        check.due("byRule dearest", y.byRule(3, 2), 10, y, 0);
        check.due("byRule last", y.byRule(3, 1), 20, y, 0);
        check.due("byRule cheapest", y.byRule(3, 3), 30, y, 0);
        y.buy(0, 3, 1, 30);
        check.due("of like ones the first", y.leastRule(3), 1, y, 0);
        LotLedger z = Check.of("ledger window 4;buy 0 7 1 3;buy 0 0 2 5;buy 0 4 1 4;buy 0 5 1 2;sell 0 8 2 1 first");
        check.due("least by cheapest", z.leastRule(4), 3, z, 0);
        check.due("byRule cheapest", z.byRule(4, 3), -2, z, 0);
        check.due("byRule last", z.byRule(4, 1), -1, z, 0);
    }

    private static void promise27() {
        LotLedger x = Check.of("ledger window 0;buy 0 0 1 20;sell 0 5 1 10 first;buy 0 8 2 30;split 0 9 1 2;sell 0 10 1 99 last");
        check.due("byWindow 2", x.byWindow(2), 29, x, 0);
        check.due("byWindow 3", x.byWindow(3), 0, x, 5);
        check.due("byWindow -1", x.byWindow(-1), 0, x, 2);
        check.due("byWindow 61", x.byWindow(61), 0, x, 2);
        check.due("the window is as it was", x.size(0), 0);
        LotLedger y = Check.of(LotsTest.LONG);
        check.due("byWindow 60", y.byWindow(60), 0, y, 0);
        check.due("byWindow 0", y.byWindow(0), -60, y, 0);
        check.due("byWindow 10", y.byWindow(10), -40, y, 0);
        LotLedger z = new LotLedger();
        check.due("byWindow without a ledger", z.byWindow(61), 0, z, 1);
    }

    private static void promise28() {
        LotLedger x = Check.of(LotsTest.LONG);
        int[] days = {0, 6, 7, 8, 29, 30, 999};
        int[] due = {0, 0, 10, 10, 10, -40, -40};
        for (int k = 0; k < days.length; k++) {
            check.due("until " + days[k], x.until(days[k]), due[k], x, 0);
        }
        check.due("until -1", x.until(-1), 0, x, 2);
        check.due("until 1000", x.until(1000), 0, x, 2);
        LotLedger z = new LotLedger();
        check.due("until without a ledger", z.until(-5), 0, z, 1);
        LotLedger y = Check.of("ledger window 9;buy 0 0 1 10;sell 0 20 1 4 first;buy 0 22 1 8");
        check.due("a buy behind isn't booked", y.until(21), -6);
        check.due("it is", y.until(22), 0);
    }

    private static void promise29() {
        LotLedger x = Check.of(LotsTest.LONG);
        int[] days = {0, 4, 5, 7, 8, 11, 12, 29, 30, 39, 40, 999};
        int[] due = {10, 10, 20, 20, 14, 14, 18, 18, 10, 10, 5, 5};
        for (int k = 0; k < days.length; k++) {
            check.due("heldAt " + days[k], x.heldAt(0, days[k]), due[k], x, 0);
        }
        check.due("another paper", x.heldAt(1, 6), 5, x, 0);
        check.due("heldAt -1", x.heldAt(0, -1), -1, x, 2);
        check.due("heldAt 1000", x.heldAt(0, 1000), -1, x, 2);
        check.due("paper 3", x.heldAt(3, 1000), -1, x, 1);
        check.due("without a ledger", new LotLedger().heldAt(0, 0), -1);
    }

    private static void promise30() {
        LotLedger x = Check.of("ledger window 10;buy 0 0 2 20;sell 0 5 2 10 last;buy 0 8 2 30;split 0 9 1 2;sell 0 10 1 99 last");
        check.due("never", x.later(1), -2, x, 0);
        check.due("at once", x.later(4), 0, x, 0);
        check.due("of a buy", x.later(0), -1, x, 1);
        check.due("of none", x.later(5), -1, x, 1);
        LotLedger y = Check.of("ledger window 10;buy 0 0 2 20;buy 0 3 2 20;sell 0 5 2 10 first");
        check.due("beyond the window ahead", y.later(2), 9, y, 0);
        LotLedger z = Check.of("ledger window 60;buy 0 0 2 20;buy 0 990 2 20;sell 0 991 2 10 first");
        check.due("999 at most", z.later(2), -2, z, 0);
        LotLedger a = Check.of("ledger window 60;buy 0 0 3 20;buy 0 39 1 20;sell 0 1 2 10 first");
        check.due("99 days", a.later(2), 99, a, 0);
        LotLedger b = Check.of("ledger window 60;buy 0 0 3 20;buy 0 40 1 20;sell 0 1 2 10 first");
        check.due("100 days are too many", b.later(2), -2, b, 0);
        LotLedger c = Check.of("ledger window 5;buy 0 0 1 20;sell 0 994 1 10 first;buy 0 994 1 5");
        check.due("up to 999", c.later(1), -2, c, 0);
        LotLedger d = Check.of("ledger window 5;buy 0 0 1 20;sell 0 993 1 10 first;buy 0 993 1 5");
        check.due("to 999 itself", d.later(1), 6, d, 0);
        LotLedger e = Check.of("ledger window 2;buy 0 0 3 20;sell 0 1 2 10 first;buy 0 3 1 1;sell 0 6 2 9 last");
        check.due("sells that go on", e.later(1), 5, e, 0);
    }
}
