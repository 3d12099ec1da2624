/** Promises 16 to 24: sells, their pieces and gains, what is deferred, lost and open. */
public final class SellsTest {
    private static final Check check = new Check();

    public static void main(String[] args) {
        promises16To18();
        promises19And20();
        promises21To24();
        rules();
        windows();
        splits();
        check.end();
    }

    private static void promises16To18() {
        LotLedger x = Check.of(LotsTest.LONG);
        check.due("gain 2", x.gain(2), 0, x, 0);
        check.due("gain 4", x.gain(4), -50, x, 0);
        check.due("gain 7", x.gain(7), 10, x, 0);
        check.due("deferred 2", x.deferred(2), 30, x, 0);
        check.due("deferred 4", x.deferred(4), 0, x, 0);
        check.due("pieces 2", x.pieces(2), 1, x, 0);
        check.due("pieces 4", x.pieces(4), 2, x, 0);
        for (int t : new int[] {0, 5, 8, -1, Integer.MAX_VALUE, Integer.MIN_VALUE}) {
            check.due("gain " + t, x.gain(t), 0, x, 1);
            check.due("deferred " + t, x.deferred(t), -1, x, 1);
            check.due("pieces " + t, x.pieces(t), -1, x, 1);
        }
        LotLedger y = new LotLedger();
        check.due("gain without a ledger", y.gain(0), 0, y, 1);
        check.due("deferred without a ledger", y.deferred(0), -1, y, 1);
        check.due("pieces without a ledger", y.pieces(0), -1, y, 1);
    }

    private static void promises19And20() {
        LotLedger x = Check.of(LotsTest.LONG);
        int[][] numbers = {{2, 1, 1, 1}, {6, 1, 0, 3}};
        int[][] sums = {{70, 50, 0}, {180, 150, 0}};
        for (int i = 0; i < 2; i++) {
            for (int what = 0; what < 4; what++) {
                check.due("piece 4 " + i + " " + what, x.piece(4, i, what), numbers[i][what], x, 0);
            }
            for (int what = 0; what < 3; what++) {
                check.due("pieceSum 4 " + i + " " + what, x.pieceSum(4, i, what), sums[i][what], x, 0);
            }
        }
        check.due("all replaced", x.piece(2, 0, 3), 0, x, 0);
        check.due("its deferral", x.pieceSum(2, 0, 2), 30, x, 0);
        check.due("a gain isn't open", x.piece(7, 0, 3), 0, x, 0);
        int[][] wrong = {{4, 2, 0}, {4, -1, 0}, {0, 0, 0}, {8, 0, 0}, {-1, 0, 0}, {4, 0, 4}, {4, 0, -1}};
        for (int[] w : wrong) {
            check.due("piece " + w[0] + " " + w[1] + " " + w[2], x.piece(w[0], w[1], w[2]), -1, x, 1);
            check.due("pieceSum " + w[0] + " " + w[1] + " " + w[2], x.pieceSum(w[0], w[1], w[2]), -1, x, 1);
        }
        check.due("pieceSum what", x.pieceSum(4, 0, 3), -1, x, 1);
        check.due("an even sell isn't open", Check.of("ledger window 9;buy 0 0 1 5;sell 0 0 1 5 last").open(), 0);
    }

    private static void promises21To24() {
        LotLedger x = Check.of(LotsTest.LONG);
        check.due("gains", x.gains(), -40, x, 0);
        check.due("deferrals", x.deferrals(), 30, x, 0);
        check.due("lost", x.lost(), 0, x, 0);
        check.due("open", x.open(), 2, x, 0);
        LotLedger y = new LotLedger();
        check.due("gains without a ledger", y.gains(), 0, y, 1);
        check.due("deferrals without a ledger", y.deferrals(), -1, y, 1);
        check.due("lost without a ledger", y.lost(), -1, y, 1);
        check.due("open without a ledger", y.open(), -1, y, 1);
        LotLedger z = Check.of("ledger window 0");
        check.due("gains of none", z.gains(), 0, z, 0);
        check.due("deferrals of none", z.deferrals(), 0, z, 0);
        check.due("lost of none", z.lost(), 0, z, 0);
        check.due("open of none", z.open(), 0, z, 0);
    }

    private static LotLedger byRule(String rule) {
        return Check.of("ledger window 0;buy 0 0 2 20;buy 0 1 2 30;buy 0 2 2 10;buy 0 3 2 30;buy 0 4 2 10;sell 0 9 3 40 " + rule);
    }

    private static void pieces(String rule, int firstBuy, int secondBuy, long gain) {
        LotLedger x = byRule(rule);
        check.due(rule + " first piece", x.piece(5, 0, 1), firstBuy);
        check.due(rule + " its shares", x.piece(5, 0, 0), 2);
        check.due(rule + " second piece", x.piece(5, 1, 1), secondBuy);
        check.due(rule + " its shares", x.piece(5, 1, 0), 1);
        check.due(rule + " gain", x.gain(5), gain);
        check.due(rule + " lots left", x.lots(0), 4);
    }

    private static void rules() {
        pieces("first", 0, 1, 50);
        pieces("last", 4, 3, 70);
        pieces("dearest", 1, 3, 30);
        pieces("cheapest", 2, 4, 90);
    }

    private static long deferredBy(int window, int buyDay, int sellDay, int laterDay) {
        String text = "ledger window " + window + ";buy 0 " + buyDay + " 2 20;sell 0 " + sellDay + " 1 10 first;buy 0 " + laterDay + " 1 5";
        return Check.of(text).deferred(1);
    }

    private static void windows() {
        check.due("ahead, at the edge", deferredBy(10, 10, 20, 99), 10);
        check.due("ahead, beyond", deferredBy(10, 9, 20, 99), 0);
        check.due("behind, at the edge", deferredBy(10, 0, 20, 30), 10);
        check.due("behind, beyond", deferredBy(10, 0, 20, 31), 0);
        check.due("the same day, no window", deferredBy(0, 20, 20, 99), 10);
        check.due("the same day behind, no window", deferredBy(0, 0, 20, 20), 10);
        LotLedger x = Check.of("ledger window 9;buy 0 0 2 10;sell 0 20 1 5 first;sell 0 21 1 4 first;buy 1 22 5 5;buy 0 22 1 5;buy 0 23 3 5");
        check.due("sells in their order", x.deferred(1), 5);
        check.due("each by the next buy", x.deferred(2), 6);
        check.due("first buy's lot", x.lotCost(0, 0), 10);
        check.due("second buy's part", x.lotCost(0, 1), 11);
        check.due("its rest", x.lotCost(0, 2), 10);
        check.due("another paper's", x.lotCost(1, 0), 25);
        check.due("none is open", x.open(), 0);
        LotLedger y = Check.of("ledger window 60;buy 0 0 3 10;sell 0 1 1 7 first;sell 0 2 1 7 last;sell 0 3 1 1 first");
        check.due("washed lots replace no more", y.deferred(2), 0);
        check.due("the sell of the washed", y.piece(3, 0, 2), 1);
        check.due("is dearer", y.pieceSum(3, 0, 0), 13);
    }

    private static void splits() {
        LotLedger x = Check.of("ledger window 5;buy 0 0 5 10;buy 0 1 1 7;buy 1 0 1 9;sell 0 20 3 4 first;split 0 21 1 2;buy 0 22 1 8");
        check.due("a lot with none is lost", x.lost(), 7);
        check.due("shares by halves", x.lot(0, 0, 0), 1);
        check.due("another paper", x.held(1), 1);
        check.due("of 18 all by 1 of 1", x.pieceSum(3, 0, 2), 18);
        check.due("what replaces costs", x.lotCost(0, 1), 26);
        LotLedger y = Check.of("ledger window 5;buy 0 0 1 10;sell 0 20 1 4 first;split 0 21 1 2;buy 0 22 1 8");
        check.due("a piece with none isn't open", y.open(), 0);
        check.due("nor replaced", y.deferrals(), 0);
        LotLedger z = Check.of("ledger window 5;buy 0 0 1 10;sell 0 20 1 4 first;split 0 21 4 1;buy 0 22 3 8");
        check.due("3 of 4 are replaced", z.deferrals(), 4);
        check.due("one isn't", z.piece(1, 0, 3), 1);
        check.due("it had 1", z.piece(1, 0, 0), 1);
        check.due("the gain of it", z.gain(1), -2);
        check.due("3 for 3", Check.of("ledger window 5;buy 0 0 7 1;split 0 1 3 3;split 0 1 2 3;split 0 1 9 2").held(0), 18);
    }
}
