/** Promises 40 to 50: acts, undoing, images, and what is told. */
public final class ActsTest {
    private static final Check check = new Check();

    public static void main(String[] args) {
        promise40();
        promise41();
        promise42();
        promise43();
        promise44();
        promise45();
        promises46And47();
        promise48();
        promise49();
        promise50();
        check.end();
    }

    private static LotLedger withTrades(int n) {
        StringBuilder text = new StringBuilder("ledger window 5");
        for (int t = 0; t < Math.min(n, 16); t++) {
            text.append(";buy 0 ").append(t).append(" 10 20");
        }
        LotLedger x = Check.of(text.toString());
        for (int t = 16; t < n; t++) {
            check.due("buy", x.buy(0, t, 10, 20), t, x, 0);
        }
        return x;
    }

    private static void promise40() {
        LotLedger x = Check.of("ledger window 5;buy 0 10 1 20;sell 0 20 1 10 first");
        check.due("a late buy", x.buy(0, 15, 2, 9), 2, x, 0);
        check.due("is booked by its day", x.booked(1), 2);
        check.due("and replaces", x.deferred(1), 10);
        check.due("its cost", x.cost(0), 28);
        check.due("wrong paper", x.buy(3, -1, 1, 1), -1, x, 1);
        check.due("wrong paper", x.buy(-1, 0, 1, 1), -1, x, 1);
        int[][] wrong = {{-1, 1, 1}, {1000, 1, 1}, {0, 0, 1}, {0, 1000, 1}, {0, 1, -1}, {0, 1, 1000}};
        for (int[] w : wrong) {
            check.due("wrong number", x.buy(0, w[0], w[1], w[2]), -1, x, 2);
        }
        check.due("the edges", x.buy(2, 999, 999, 999), 3, x, 0);
        check.due("the edges", x.buy(1, 0, 1, 0), 4, x, 0);
        LotLedger full = withTrades(24);
        check.due("no room", full.buy(0, 1, 1, 1), -1, full, 3);
        check.due("a number first", full.buy(0, 1, 0, 1), -1, full, 2);
        check.due("24", full.size(1), 24);
        LotLedger y = Check.of("ledger window 10;buy 0 0 2 20;sell 0 5 2 10 last;buy 0 8 2 30;split 0 9 1 2;sell 0 10 1 99 last");
        check.due("short by parting", y.buy(0, 6, 1, 5), -1, y, 5);
        check.due("nothing is booked", y.size(1), 5);
        check.due("nothing to undo", y.size(5), 0);
        check.due("gains as they were", y.gains(), 19);
    }

    private static void promise41() {
        LotLedger x = Check.of("ledger window 0;buy 0 5 4 10;buy 0 6 4 20");
        check.due("last", x.sell(0, 7, 2, 15, 1), 2, x, 0);
        check.due("its gain", x.gain(2), -10);
        check.due("too early", x.sell(0, 4, 1, 15, 0), -1, x, 5);
        check.due("too many", x.sell(0, 9, 7, 15, 0), -1, x, 5);
        check.due("a late one by which a later one is short", x.sell(0, 6, 7, 15, 0), -1, x, 5);
        check.due("all", x.sell(0, 9, 6, 15, 2), 3, x, 0);
        check.due("its gain", x.gain(3), 10);
        check.due("wrong paper", x.sell(3, -1, 1, 1, 0), -1, x, 1);
        check.due("wrong rule", x.sell(0, -1, 1, 1, 4), -1, x, 1);
        check.due("wrong rule", x.sell(0, 1, 1, 1, -1), -1, x, 1);
        int[][] wrong = {{-1, 1, 1}, {1000, 1, 1}, {0, 0, 1}, {0, 1000, 1}, {0, 1, -1}, {0, 1, 1000}};
        for (int[] w : wrong) {
            check.due("wrong number", x.sell(0, w[0], w[1], w[2], 0), -1, x, 2);
        }
        LotLedger full = withTrades(24);
        check.due("no room, and short", full.sell(1, 1, 1, 1, 0), -1, full, 3);
        LotLedger y = new LotLedger();
        check.due("without a ledger", y.sell(0, 0, 1, 1, 0), -1, y, 1);
    }

    private static void promise42() {
        LotLedger x = Check.of("ledger window 0;buy 0 5 4 10;sell 0 9 4 10 first");
        check.due("2 for 1, too late", x.split(0, 9, 2, 1), 2, x, 0);
        check.due("held", x.held(0), 0);
        check.due("2 for 1", x.split(0, 8, 2, 1), 3, x, 0);
        check.due("held", x.held(0), 8 - 4 << 1);
        check.due("short", x.split(0, 6, 1, 3), -1, x, 5);
        check.due("1 for 1", x.split(1, 6, 1, 1), 4, x, 0);
        check.due("9 for 9", x.split(1, 999, 9, 9), 5, x, 0);
        check.due("no room", x.split(1, 6, 1, 1), -1, x, 3);
        check.due("a number first", x.split(1, 6, 0, 1), -1, x, 2);
        int[][] wrong = {{-1, 1, 1}, {1000, 1, 1}, {0, 0, 1}, {0, 10, 1}, {0, 1, 0}, {0, 1, 10}};
        for (int[] w : wrong) {
            check.due("wrong number", x.split(0, w[0], w[1], w[2]), -1, x, 2);
        }
        check.due("wrong paper", x.split(3, -1, 1, 1), -1, x, 1);
        check.due("strike one", x.strike(2), 5);
        check.due("there is room again", x.split(0, 9, 1, 1), 5, x, 0);
        LotLedger full = withTrades(24);
        check.due("no room", full.split(0, 1, 1, 1), -1, full, 3);
        LotLedger y = new LotLedger();
        check.due("without a ledger", y.split(0, 0, 1, 1), -1, y, 1);
    }

    private static void promise43() {
        LotLedger x = Check.of("ledger window 0;buy 0 5 4 10;buy 0 6 4 20;sell 0 9 5 30 first;buy 1 1 1 1");
        check.due("short", x.strike(0), -1, x, 5);
        check.due("nothing is struck", x.size(1), 4);
        check.due("strike a sell", x.strike(2), 3, x, 0);
        check.due("the one behind has its number", x.trade(2, 1), 1);
        check.due("a buy", x.strike(0), 2, x, 0);
        check.due("numbers of lots", x.lot(0, 0, 2), 0);
        check.due("none such", x.strike(2), -1, x, 1);
        check.due("none such", x.strike(-1), -1, x, 1);
        check.due("strike", x.strike(0), 1, x, 0);
        check.due("strike", x.strike(0), 0, x, 0);
        check.due("none such", x.strike(0), -1, x, 1);
        check.due("as told", x.size(2), 4);
    }

    private static void promise44() {
        LotLedger x = Check.of("ledger window 0;buy 0 0 3 10;buy 0 1 4 20;sell 0 5 1 30 first;split 0 6 1 2;sell 0 7 3 30 first");
        check.due("short", x.rule(2, 1), -1, x, 5);
        check.due("its rule", x.trade(2, 5), 0);
        check.due("cheapest", x.rule(2, 3), 0, x, 0);
        check.due("its rule", x.trade(2, 5), 3);
        check.due("the one it has", x.rule(2, 3), 3, x, 0);
        check.due("is an act, too", x.size(5), 2);
        check.due("another", x.rule(4, 2), 0, x, 0);
        check.due("a buy", x.rule(0, 0), -1, x, 1);
        check.due("a split", x.rule(3, 0), -1, x, 1);
        check.due("none", x.rule(5, 0), -1, x, 1);
        check.due("no rule", x.rule(2, 4), -1, x, 1);
        check.due("no rule", x.rule(2, -1), -1, x, 1);
        LotLedger y = Check.of("ledger window 0;buy 0 0 1 10;buy 0 1 1 20;sell 0 5 1 30 first");
        check.due("gains by first", y.gains(), 20);
        check.due("last", y.rule(2, 1), 0, y, 0);
        check.due("gains by last", y.gains(), 10);
    }

    private static void promise45() {
        LotLedger x = new LotLedger();
        check.due("no ledger", x.undo() ? 1 : 0, 0, x, 6);
        x = Check.of("ledger window 0;buy 0 0 2 10;sell 0 5 1 30 first");
        check.due("no act", x.undo() ? 1 : 0, 0, x, 6);
        x.buy(0, 3, 1, 7);
        x.sell(0, 9, 1, 5, 1);
        x.rule(1, 1);
        x.strike(3);
        x.split(0, 1, 3, 1);
        check.due("refused", x.sell(0, 0, 999, 1, 0), -1, x, 5);
        check.due("held", x.held(0), 6);
        check.due("undo the split", x.undo(), true);
        check.due("held", x.held(0), 2);
        check.due("undo the strike", x.undo() ? 1 : 0, 1, x, 0);
        check.due("held", x.held(0), 1);
        check.due("its price", x.trade(3, 4), 5);
        check.due("undo the rule", x.undo(), true);
        check.due("the rule", x.trade(1, 5), 0);
        check.due("undo the sell", x.undo(), true);
        check.due("undo the buy", x.undo(), true);
        check.due("as told", x.size(1), 2);
        check.due("as told", x.gains(), 20);
        check.due("no more", x.undo() ? 1 : 0, 0, x, 6);
        sixteenAreKept(Check.of("ledger window 0;buy 0 0 2 10;sell 0 5 1 30 first"));
    }

    private static void sixteenAreKept(LotLedger x) {
        for (int k = 1; k <= 20; k++) {
            check.due("buy", x.buy(1, k, k, 1), k + 1);
            check.due("kept", x.size(5), Math.min(k, 16));
        }
        for (int k = 20; k > 4; k--) {
            check.due("undo", x.undo(), true);
            check.due("left", x.held(1), (k - 1) * k / 2);
        }
        check.due("the first four stay", x.undo() ? 1 : 0, 0, x, 6);
        check.due("the first four", x.held(1), 10);
    }

    private static void promises46And47() {
        LotLedger x = new LotLedger();
        check.due("no ledger", x.image(), -1, x, 1);
        check.due("no image", x.back(0) ? 1 : 0, 0, x, 1);
        x = Check.of("ledger window 0;buy 0 0 2 10");
        check.due("image", x.image(), 0, x, 0);
        x.buy(0, 1, 3, 10);
        check.due("no such image", x.back(1) ? 1 : 0, 0, x, 1);
        check.due("no such image", x.back(-1) ? 1 : 0, 0, x, 1);
        check.due("image", x.image(), 1, x, 0);
        x.strike(0);
        check.due("image", x.image(), 2, x, 0);
        check.due("no room", x.image(), -1, x, 3);
        check.due("acts stay", x.size(5), 2);
        x.feed(1, 2, 3, 4, 5);
        check.due("back to 0", x.back(0) ? 1 : 0, 1, x, 0);
        check.due("held by 0", x.held(0), 2);
        check.due("nothing to undo", x.size(5), 0);
        check.due("nothing to undo", x.undo() ? 1 : 0, 0, x, 6);
        check.due("images stay", x.size(6), 3);
        check.due("the tape is no part of it", x.size(7), 20);
        check.due("back to 2", x.back(2), true);
        check.due("held by 2", x.held(0), 3);
        check.due("back to 1", x.back(1), true);
        check.due("held by 1", x.held(0), 5);
        x.buy(0, 5, 1, 1);
        check.due("back to 1 again", x.back(1), true);
        check.due("an image isn't touched by acts", x.held(0), 5);
        check.due("back to 3", x.back(3) ? 1 : 0, 0, x, 1);
    }

    private static void promise48() {
        LotLedger x = Check.of("ledger window 9;sell 0 20 1 5 first;buy 0 0 9 10;sell 0 20 1 50 first;buy 0 20 2 5;sell 0 19 1 5 last");
        x.trade(99, 0);
        check.due("the first by numbers", Check.led(x, 0), 0);
        check.due("the second", Check.led(x, 1), 4);
        check.due("no third", Check.led(x, 2), -99);
        check.due("no -1", Check.led(x, -1), -99);
        check.due("none at the end", Check.led(x, Integer.MAX_VALUE), -99);
        check.due("trouble stays", x.trouble(), 1);
        check.due("no ledger", Check.led(new LotLedger(), 0), -99);
        check.due("a replacement that defers nothing",
            Check.led(Check.of("ledger window 9;buy 0 0 1 2;sell 0 20 1 1 first;split 0 20 9 1;buy 0 21 1 5"), 0), -99);
    }

    private static void promise49() {
        LotLedger x = Check.of(LotsTest.LONG);
        x.buy(2, 5, 5, 5);
        x.image();
        x.feed(1, 2, 3, 4, 5);
        int[] due = {10, 9, 8, 2, 1, 1, 1, 20};
        for (int what = 0; what < due.length; what++) {
            check.due("size " + what, x.size(what), due[what]);
        }
        x.held(9);
        for (int what : new int[] {-1, 8, Integer.MIN_VALUE, Integer.MAX_VALUE}) {
            check.due("size " + what, x.size(what), -1);
        }
        check.due("trouble stays", x.trouble(), 1);
    }

    private static void promise50() {
        LotLedger x = Check.of("ledger window 5;buy 0 0 1 1");
        check.due("0", x.trouble(), 0);
        x.held(3);
        check.due("1", x.trouble(), 1);
        check.due("stays when asked", x.trouble(), 1);
        x.feed(0, 0, 0, 0, 0);
        x.fault();
        x.where();
        x.size(99);
        check.due("stays behind calls that are never refused", x.trouble(), 1);
        x.worth(0, -1);
        check.due("2", x.trouble(), 2);
        x.image();
        x.image();
        x.image();
        check.due("0 again", x.trouble(), 0);
        x.image();
        check.due("3", x.trouble(), 3);
        x.ledger(1);
        check.due("4", x.trouble(), 4);
        x.sell(0, 0, 2, 1, 0);
        check.due("5", x.trouble(), 5);
        x.undo();
        check.due("6", x.trouble(), 6);
        for (int call = 0; call < 41; call++) {
            LotLedger y = Check.of(LotsTest.LONG);
            y.buy(1, 0, 1, 1);
            y.image();
            check.due("refused", y.held(3), -1, y, 1);
            callRightly(y, call);
            check.due("0 behind call " + call, y.trouble(), 0);
        }
    }

    /** Each call that may be refused, by arguments with which it isn't. */
    static void callRightly(LotLedger x, int call) {
        switch (call) {
            case 0: x.trade(0, 0); break;
            case 1: x.booked(0); break;
            case 2: x.held(0); break;
            case 3: x.cost(0); break;
            case 4: x.lots(0); break;
            case 5: x.lot(0, 0, 0); break;
            case 6: x.lotCost(0, 0); break;
            case 7: x.mean(0, true); break;
            case 8: x.worth(0, 0); break;
            case 9: x.chain(); break;
            case 10: x.gain(2); break;
            case 11: x.deferred(2); break;
            case 12: x.pieces(2); break;
            case 13: x.piece(2, 0, 0); break;
            case 14: x.pieceSum(2, 0, 0); break;
            case 15: x.gains(); break;
            case 16: x.deferrals(); break;
            case 17: x.lost(); break;
            case 18: x.open(); break;
            case 19: x.byRule(2, 0); break;
            case 20: x.leastRule(2); break;
            case 21: x.byWindow(0); break;
            case 22: x.until(0); break;
            case 23: x.heldAt(0, 0); break;
            case 24: x.later(2); break;
            case 25: x.fits(); break;
            case 26: x.fitAt(0); break;
            case 27: x.could(); break;
            case 28: x.surely(); break;
            case 29: x.ask(); break;
            case 30: x.askLeaves(); break;
            case 31: x.judge(); break;
            case 32: x.drawnGains(0, 0); break;
            case 33: x.drawnHeld(0, 0, 0); break;
            case 34: x.sell(1, 50, 1, 1, 0); break;
            case 35: x.split(1, 50, 1, 1); break;
            case 36: x.strike(8); break;
            case 37: x.rule(2, 0); break;
            case 38: x.undo(); break;
            case 39: x.image(); break;
            default: x.back(0); break;
        }
    }
}
