/** The most LOTS, PIECES, CHAINS and SHARES that a ledger can come to: nothing may be cut off by rows that are too few. */
public final class DeepTest {
    private static final Check check = new Check();

    public static void main(String[] args) {
        mostPieces();
        mostOpen();
        mostShares();
        longestText();
        check.end();
    }

    /** Each sell takes all washed LOTS and one share more, and each PIECE of it is replaced by a part of the rest. */
    private static void mostPieces() {
        StringBuilder text = new StringBuilder("ledger window 60;buy 2 0 999 999");
        for (int k = 1; k < 16; k++) {
            text.append(";sell 2 1 ").append(k).append(" 0 first");
        }
        LotLedger x = new LotLedger();
        NaiveLedger y = new NaiveLedger();
        feedBoth(x, y, text.toString());
        for (int k = 16; k < 24; k++) {
            check.due("sell " + k, x.sell(2, 1, k, 0, 0), y.sell(2, 1, k, 0, 0));
        }
        for (int k = 1; k < 24; k++) {
            check.due("pieces " + k, x.pieces(k), k);
            for (int i = 0; i < k; i++) {
                check.due("chain " + k + " " + i, x.piece(k, i, 2), y.piece(k, i, 2));
                check.due("cost " + k + " " + i, x.pieceSum(k, i, 0), y.pieceSum(k, i, 0));
                check.due("deferred " + k + " " + i, x.pieceSum(k, i, 2), y.pieceSum(k, i, 2));
            }
        }
        check.due("lots", x.lots(2), 24);
        check.due("chain", x.chain(), 23);
        check.due("cost", x.cost(2), 999 * 999);
        check.due("gains", x.gains(), 0);
        int sells = 0;
        for (int seed = 0; seed <= 65536; seed += 7) {
            check.due("drawnGains " + seed, x.drawnGains(seed, 12), y.drawnGains(seed, 12));
            check.due("drawnHeld " + seed, x.drawnHeld(2, seed, 12), y.drawnHeld(2, seed, 12));
            sells += x.drawnHeld(2, seed, 12) < 723 ? 1 : 0;
        }
        check.due("some draws sell", sells > 0, true);
    }

    /** Sells far from all buys leave PIECES open, which one buy replaces part by part. */
    private static void mostOpen() {
        LotLedger x = new LotLedger();
        NaiveLedger y = new NaiveLedger();
        feedBoth(x, y, "ledger window 60;buy 0 0 1 9;buy 0 0 1 9");
        for (int k = 2; k < 24; k++) {
            boolean sells = k % 2 == 0;
            int day = k * 40;
            long got = sells ? x.sell(0, day, k, 0, k / 2 % 4) : x.buy(0, day, k + 3, 999);
            long want = sells ? y.sell(0, day, k, 0, k / 2 % 4) : y.buy(0, day, k + 3, 999);
            check.due("act " + k, got, want);
            check.due("open " + k, x.open(), y.open());
            check.due("lots " + k, x.lots(0), y.lots(0));
            check.due("cost " + k, x.cost(0), y.cost(0));
            check.due("gains " + k, x.gains(), y.gains());
        }
        check.due("chain", x.chain(), y.chain());
    }

    private static void mostShares() {
        StringBuilder text = new StringBuilder("ledger window 60");
        for (int k = 0; k < 12; k++) {
            text.append(";buy 1 0 999 999");
        }
        text.append(";split 1 1 9 1;split 1 1 9 1;split 1 1 9 1;split 1 1 9 1");
        LotLedger x = Check.of(text.toString());
        for (int k = 0; k < 8; k++) {
            check.due("buy", x.buy(1, 0, 999, 999), 16 + k);
        }
        check.due("held", x.held(1), 20 * 999 * 6561);
        check.due("cost", x.cost(1), 20L * 999 * 999);
        check.due("worth", x.worth(1, 999), 20L * 999 * 6561 * 999 - 20L * 999 * 999);
        check.due("mean, upper", x.mean(1, false), 37);
        check.due("mean, lower", x.mean(1, true), 243);
    }

    private static void longestText() {
        StringBuilder text = new StringBuilder("ledger window 60;buy 0 0 999 999");
        for (int k = 1; k < 16; k++) {
            text.append(" ; sell 000000 000999 000001 000000 cheapest");
        }
        while (text.length() < 900) {
            text.append(' ');
        }
        LotLedger x = new LotLedger();
        check.due("900 bytes", Check.read(x, text.toString()), 16);
        check.due("its gains", x.gains(), -15 * 999);
    }

    private static void feedBoth(LotLedger x, NaiveLedger y, String text) {
        for (int at = 0; at < text.length(); at += 20) {
            int[] w = new int[5];
            for (int i = 0; i < 5; i++) {
                w[i] = Check.word(text, at + 4 * i);
            }
            check.due("feed", x.feed(w[0], w[1], w[2], w[3], w[4]), y.feed(w));
        }
        check.due("ledger", x.ledger(text.length()), y.ledger(text.length()));
    }
}
