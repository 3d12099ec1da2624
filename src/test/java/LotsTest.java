/** Promises 6 to 15: trades, how they are booked, and the lots that are left. */
public final class LotsTest {
    static final String LONG = "ledger window 10;buy 0 0 10 20;buy 0 5 10 30;sell 0 8 6 15 first;buy 0 12 4 18;"
        + "sell 0 30 8 25 dearest;split 0 40 1 2;buy 1 3 5 10;sell 1 7 5 12 last;unsure 7 14;unsure 2 16;gain 7 up 20";

    private static final Check check = new Check();

    public static void main(String[] args) {
        promise6();
        promise7();
        promises8To10();
        promises11And12();
        promise13();
        promise14();
        promise15();
        parting();
        check.end();
    }

    private static void promise6() {
        LotLedger x = Check.of(LONG);
        int[][] due = {{0, 0, 0, 10, 20, -2, 0}, {0, 0, 5, 10, 30, -2, 2}, {1, 0, 8, 6, 15, 0, 4}, {0, 0, 12, 4, 18, -2, 5},
            {1, 0, 30, 8, 25, 2, 6}, {2, 0, 40, 1, 2, -2, 7}, {0, 1, 3, 5, 10, -2, 1}, {1, 1, 7, 5, 12, 1, 3}};
        for (int t = 0; t < due.length; t++) {
            for (int what = 0; what < 7; what++) {
                check.due("trade " + t + " " + what, x.trade(t, what), due[t][what], x, 0);
            }
        }
        int[][] wrong = {{8, 0}, {-1, 0}, {0, 7}, {0, -1}, {Integer.MAX_VALUE, 0}, {Integer.MIN_VALUE, 0}, {0, Integer.MAX_VALUE}};
        for (int[] w : wrong) {
            check.due("trade " + w[0] + " " + w[1], x.trade(w[0], w[1]), -1, x, 1);
        }
        check.due("cheapest", Check.of("ledger window 0;buy 0 0 1 1;sell 0 0 1 1 cheapest").trade(1, 5), 3);
        check.due("trade without a ledger", new LotLedger().trade(0, 0), -1);
    }

    private static void promise7() {
        LotLedger x = Check.of(LONG);
        int[] due = {0, 6, 1, 7, 2, 3, 4, 5};
        for (int i = 0; i < due.length; i++) {
            check.due("booked " + i, x.booked(i), due[i], x, 0);
        }
        check.due("booked 8", x.booked(8), -1, x, 1);
        check.due("booked -1", x.booked(-1), -1, x, 1);
        LotLedger y = Check.of("ledger window 0;buy 0 5 1 1;buy 1 5 1 1;buy 2 4 1 1;buy 0 5 1 1;buy 0 0 1 1");
        int[] sameDay = {4, 2, 0, 1, 3};
        for (int i = 0; i < sameDay.length; i++) {
            check.due("booked " + i + ", of a day by numbers", y.booked(i), sameDay[i]);
            check.due("as which " + sameDay[i] + " is booked", y.trade(sameDay[i], 6), i);
        }
        LotLedger z = Check.of("ledger window 0;buy 0 5 1 1;buy 0 6 1 1");
        check.due("a late trade", z.buy(0, 0, 1, 1), 2);
        check.due("is booked ahead", z.trade(2, 6), 0);
        check.due("of the others", z.trade(0, 6), 1);
        check.due("strike it", z.strike(2), 2);
        check.due("as it was", z.trade(0, 6), 0);
        LotLedger a = Check.of("ledger window 0;buy 0 5 1 1;buy 0 4 1 1");
        a.buy(0, 9, 1, 1);
        a.buy(0, 9, 1, 1);
        check.due("booked behind", a.trade(0, 6), 1);
        check.due("strike the one ahead", a.strike(1), 3);
        check.due("booked first", a.trade(0, 6), 0);
    }

    private static void promises8To10() {
        LotLedger x = Check.of(LONG);
        check.due("held 0", x.held(0), 5, x, 0);
        check.due("cost 0", x.cost(0), 232, x, 0);
        check.due("lots 0", x.lots(0), 3, x, 0);
        for (int p = 1; p < 3; p++) {
            check.due("held none", x.held(p), 0, x, 0);
            check.due("cost none", x.cost(p), 0, x, 0);
            check.due("lots none", x.lots(p), 0, x, 0);
        }
        for (int p : new int[] {-1, 3, Integer.MIN_VALUE, Integer.MAX_VALUE}) {
            check.due("held " + p, x.held(p), -1, x, 1);
            check.due("cost " + p, x.cost(p), -1, x, 1);
            check.due("lots " + p, x.lots(p), -1, x, 1);
        }
        LotLedger y = new LotLedger();
        check.due("held without a ledger", y.held(0), -1, y, 1);
        check.due("cost without a ledger", y.cost(0), -1, y, 1);
        check.due("lots without a ledger", y.lots(0), -1, y, 1);
    }

    private static void promises11And12() {
        LotLedger x = Check.of(LONG);
        long[][] due = {{2, 0, 0, 1, 1, 100}, {1, 5, 1, 0, 0, 60}, {2, 12, 3, 0, 0, 72}};
        for (int i = 0; i < due.length; i++) {
            for (int what = 0; what < 5; what++) {
                check.due("lot " + i + " " + what, x.lot(0, i, what), due[i][what], x, 0);
            }
            check.due("lotCost " + i, x.lotCost(0, i), due[i][5], x, 0);
        }
        int[][] wrong = {{0, 3, 0}, {0, -1, 0}, {1, 0, 0}, {3, 0, 0}, {-1, 0, 0}, {0, 0, 5}, {0, 0, -1}};
        for (int[] w : wrong) {
            check.due("lot " + w[0] + " " + w[1] + " " + w[2], x.lot(w[0], w[1], w[2]), -1, x, 1);
        }
        for (int k = 0; k < 5; k++) {
            check.due("lotCost " + wrong[k][0] + " " + wrong[k][1], x.lotCost(wrong[k][0], wrong[k][1]), -1, x, 1);
        }
    }

    private static void promise13() {
        LotLedger x = Check.of("ledger window 0;buy 0 0 6 10;buy 0 0 4 15;buy 1 0 7 0");
        check.due("120 by 10, upper", x.mean(0, false), 12, x, 0);
        check.due("120 by 10, lower", x.mean(0, true), 1, x, 0);
        check.due("0 by 7, upper", x.mean(1, false), 0, x, 0);
        check.due("0 by 7, lower", x.mean(1, true), 1, x, 0);
        check.due("none, upper", x.mean(2, false), 0, x, 0);
        check.due("none, lower", x.mean(2, true), 1, x, 0);
        check.due("mean -1", x.mean(-1, true), -1, x, 1);
        check.due("mean 3", x.mean(3, false), -1, x, 1);
        LotLedger y = Check.of("ledger window 0;buy 0 0 6 10;buy 0 0 3 16");
        check.due("108 by 9, upper", y.mean(0, false), 12);
        y.buy(0, 0, 3, 2);
        check.due("114 by 12, upper", y.mean(0, false), 19);
        check.due("114 by 12, lower", y.mean(0, true), 2);
    }

    private static void promise14() {
        LotLedger x = Check.of(LONG);
        check.due("worth at 50", x.worth(0, 50), 18, x, 0);
        check.due("worth at 999", x.worth(0, 999), 4763, x, 0);
        check.due("worth at 0", x.worth(0, 0), -232, x, 0);
        check.due("worth of none", x.worth(1, 999), 0, x, 0);
        check.due("worth at 1000", x.worth(0, 1000), 0, x, 2);
        check.due("worth at -1", x.worth(0, -1), 0, x, 2);
        check.due("worth of 3", x.worth(3, -1), 0, x, 1);
        check.due("worth without a ledger", new LotLedger().worth(0, 1), 0);
    }

    private static void promise15() {
        LotLedger x = Check.of("ledger window 5;buy 1 0 1 9;sell 1 1 1 5 first;buy 1 2 1 9;sell 1 3 1 5 first;buy 1 4 1 9");
        check.due("chain", x.chain(), 2, x, 0);
        check.due("the lot's", x.lot(1, 0, 4), 2);
        check.due("all losses in its cost", x.lotCost(1, 0), 17);
        check.due("sell it", x.sell(1, 5, 1, 99, 0), 5);
        check.due("chain without lots", x.chain(), 0, x, 0);
        LotLedger y = new LotLedger();
        check.due("chain without a ledger", y.chain(), -1, y, 1);
    }

    /** Parts are cheaper by what their division leaves; the rest has it, and stands behind. */
    private static void parting() {
        LotLedger x = Check.of("ledger window 9;buy 0 0 3 5;buy 0 20 2 9;sell 0 21 2 4 last;split 0 21 7 1;buy 0 22 21 1");
        check.due("untouched lots", x.lots(0), 3);
        check.due("the old lot", x.lotCost(0, 0), 15);
        check.due("the parted", x.lot(0, 1, 0), 14);
        check.due("is washed", x.lot(0, 1, 3), 1);
        check.due("14 and the loss of 10", x.lotCost(0, 1), 24);
        check.due("the rest", x.lot(0, 2, 0), 7);
        check.due("isn't washed", x.lot(0, 2, 3), 0);
        LotLedger y = Check.of("ledger window 9;buy 0 0 3 1;buy 0 50 3 2;sell 0 50 3 1 last;split 0 51 1 2;split 0 51 2 1;sell 0 90 1 1 first");
        check.due("a sold part", y.pieceSum(5, 0, 0), 1);
        check.due("the rest of 3 by 2", y.lotCost(0, 0), 2);
    }
}
