/** The boundary cases of "Terms" II: how TRADES are BOOKED. */
final class LotBounds {
    private static final String HEAD = "ledger window 0;";
    private final Sentences s;

    LotBounds(Sentences sentences) {
        s = sentences;
    }

    void run() {
        order();
        parting();
        rules();
        pieces();
        windows();
        replacing();
        splits();
        gains();
    }

    private void order() {
        s.test("Terms II", "BOOKED by DAYS", () -> {
            LotLedger x = Check.of(HEAD + "buy 0 1 1 5;buy 0 0 1 7;sell 0 1 1 9 first");
            s.due("ahead", x.booked(0), 1);
            s.due("behind", x.booked(1), 0);
            s.due("the first LOT", x.piece(2, 0, 1), 1);
        });
        s.test("Terms II", "those of a DAY by numbers", () -> {
            LotLedger x = Check.of(HEAD + "buy 0 3 1 5;buy 0 3 1 7;sell 0 3 1 9 last;buy 0 3 1 8");
            for (int i = 0; i < 4; i++) {
                s.due("BOOKED as " + i, x.booked(i), i);
            }
            s.due("the last LOT then", x.piece(2, 0, 1), 1);
        });
        s.test("Terms II", "A buy: a LOT more, behind all others", () -> {
            LotLedger x = Check.of(HEAD + "buy 0 5 1 5;buy 0 0 1 7;buy 0 9 1 6");
            s.due("first", x.lot(0, 0, 2), 1);
            s.due("second", x.lot(0, 1, 2), 0);
            s.due("third", x.lot(0, 2, 2), 2);
        });
        s.test("Terms II", "COST SHARES times PRICE, CHAIN 0, not WASHED", () -> {
            LotLedger x = Check.of(HEAD + "buy 0 0 999 999;buy 0 999 1 0");
            s.due("most", x.lotCost(0, 0), 998001);
            s.due("least", x.lotCost(0, 1), 0);
            s.due("CHAIN", x.lot(0, 0, 4), 0);
            s.due("WASHED", x.lot(0, 0, 3), 0);
        });
        s.test("Terms II", "the order of buys BOOKED on their own DAYS, behind parted ones, too", () -> {
            LotLedger x = Check.of("ledger window 9;buy 0 0 3 9;buy 0 1 2 5;sell 0 2 1 4 last");
            s.due("parted ahead of the rest", x.lot(0, 0, 3), 1);
            s.due("of the first", x.lot(0, 0, 0), 1);
            s.due("the rest", x.lot(0, 1, 0), 2);
            s.due("the other", x.lot(0, 2, 2), 1);
        });
    }

    private void parting() {
        s.test("Terms II", "All divisions take the lower WHOLE (to PART)", () -> {
            LotLedger x = Check.of(HEAD + "buy 0 0 3 3;split 0 1 1 2;split 0 1 4 1;sell 0 2 3 9 first");
            s.due("27 by 4", x.pieceSum(3, 0, 0), 6);
            s.due("the rest has the rest", x.lotCost(0, 0), 3);
        });
        s.test("Terms II", "a LOT of their own, right ahead of the rest", () -> {
            LotLedger x = Check.of("ledger window 5;buy 1 0 1 9;sell 1 9 1 1 first;buy 1 10 3 7;buy 1 10 1 1");
            s.due("the parted", x.lot(1, 0, 0), 1);
            s.due("its COST", x.lotCost(1, 0), 15);
            s.due("the rest", x.lot(1, 1, 0), 2);
            s.due("its COST", x.lotCost(1, 1), 14);
            s.due("the one behind", x.lot(1, 2, 2), 3);
        });
        s.test("Terms II", "the rest has the rest; all else is as it was", () -> {
            LotLedger x = Check.of("ledger window 5;buy 1 0 3 9;sell 1 9 3 1 first;buy 1 10 3 7;sell 1 20 1 99 last");
            s.due("SHARES", x.lot(1, 0, 0), 2);
            s.due("DAY", x.lot(1, 0, 1), 10);
            s.due("buy", x.lot(1, 0, 2), 2);
            s.due("WASHED", x.lot(1, 0, 3), 1);
            s.due("CHAIN", x.lot(1, 0, 4), 1);
            s.due("COST", x.lotCost(1, 0), 30);
            s.due("the PIECE's buy", x.piece(3, 0, 1), 2);
            s.due("the PIECE's CHAIN", x.piece(3, 0, 2), 1);
            s.due("the PIECE's COST", x.pieceSum(3, 0, 0), 15);
        });
        s.test("Terms II", "(Of all SHARES: the LOT itself.)", () -> {
            LotLedger x = Check.of(HEAD + "buy 0 0 3 9;buy 0 0 2 9;sell 0 1 3 9 first");
            s.due("a sell of all", x.lots(0), 1);
            LotLedger y = Check.of("ledger window 5;buy 0 0 3 9;sell 0 9 3 1 first;buy 0 10 3 7");
            s.due("a LOT that REPLACES all", y.lots(0), 1);
            s.due("WASHED", y.lot(0, 0, 3), 1);
        });
        s.test("Terms II", "one LOT behind the other; of the LOT that has more than are still to be taken they are PARTED", () -> {
            LotLedger x = Check.of(HEAD + "buy 0 0 3 1;buy 0 0 3 2;buy 0 0 3 3;sell 0 0 7 9 first");
            s.due("PIECES", x.pieces(3), 3);
            s.due("all of the first", x.piece(3, 0, 0), 3);
            s.due("all of the second", x.piece(3, 1, 0), 3);
            s.due("of the third", x.piece(3, 2, 0), 1);
            s.due("its rest", x.lot(0, 0, 0), 2);
            LotLedger y = Check.of(HEAD + "buy 0 0 3 1;buy 0 0 3 2;buy 0 0 3 3;sell 0 0 6 9 first");
            s.due("no PIECE of none", y.pieces(3), 2);
        });
    }

    private void takes(String what, String trades, String rule, int... buys) {
        LotLedger x = Check.of(HEAD + trades + ";" + "sell 0 9 " + buys[buys.length - 1] + " 1 " + rule);
        int t = x.size(1) - 1;
        for (int i = 0; i + 1 < buys.length; i++) {
            s.due(what + ", PIECE " + i, x.piece(t, i, 1), buys[i]);
        }
        s.due(what + ", PIECES", x.pieces(t), buys.length - 1);
    }

    private void rules() {
        String five = "buy 0 0 1 5;buy 0 1 1 7;buy 0 2 1 3;buy 0 3 1 7;buy 0 4 1 3";
        s.test("Terms II", "first: by their order", () -> takes("first", five, "first", 0, 1, 2, 3));
        s.test("Terms II", "last: from the last on", () -> takes("last", five, "last", 4, 3, 2, 3));
        s.test("Terms II", "dearest: that of most COST by SHARES", () -> takes("dearest", five, "dearest", 1, 3, 0, 3));
        s.test("Terms II", "cheapest: of least", () -> takes("cheapest", five, "cheapest", 2, 4, 0, 3));
        s.test("Terms II", "by SHARES, not by COST alone", () -> {
            takes("dearest", "buy 0 0 9 5;buy 0 1 1 7", "dearest", 1, 0, 2);
            takes("cheapest", "buy 0 0 1 7;buy 0 1 9 5", "cheapest", 1, 9);
        });
        s.test("Terms II", "as fractions", () -> {
            takes("14 by 3 and 18 by 4", "buy 0 0 9 2;buy 0 0 7 2;split 0 1 1 2", "dearest", 1, 1);
            takes("18 by 4 and 14 by 3", "buy 0 0 7 2;buy 0 0 9 2;split 0 1 1 2", "cheapest", 1, 1);
        });
        s.test("Terms II", "most, least, by 1", () -> {
            takes("2 and 1", "buy 0 0 1 1;buy 0 0 1 2", "dearest", 1, 1);
            takes("1 and 2", "buy 0 0 1 2;buy 0 0 1 1", "cheapest", 1, 1);
            takes("1 and 0", "buy 0 0 1 0;buy 0 0 1 1", "dearest", 1, 1);
            takes("0 and 1", "buy 0 0 1 1;buy 0 0 1 0", "cheapest", 1, 1);
        });
        s.test("Terms II", "of like ones the first in their order", () -> {
            takes("dearest", "buy 0 1 2 6;buy 0 0 3 6;buy 0 2 1 6", "dearest", 1, 0, 2, 6);
            takes("cheapest", "buy 0 1 2 6;buy 0 0 3 6;buy 0 2 1 6", "cheapest", 1, 0, 2, 6);
            takes("dearest, for nothing", "buy 0 0 2 0;buy 0 1 3 0", "dearest", 0, 1);
            takes("cheapest, like fractions", "buy 0 0 9 2;buy 0 0 5 3;split 0 1 2 3;buy 0 2 2 3", "cheapest", 0, 1);
        });
    }

    private void pieces() {
        s.test("Terms II", "PROCEEDS: SHARES of the PIECE times PRICE", () -> {
            LotLedger x = Check.of(HEAD + "buy 0 0 999 0;split 0 0 9 1;split 0 0 9 1;split 0 0 9 1;split 0 0 9 1;sell 0 1 999 999 first");
            s.due("most told", x.pieceSum(5, 0, 1), 998001);
            LotLedger y = Check.of(HEAD + "buy 0 0 2 3;sell 0 1 2 0 first");
            s.due("for nothing", y.pieceSum(1, 0, 1), 0);
            s.due("its GAIN", y.gain(1), -6);
        });
        s.test("Terms II", "A PIECE whose GAIN is below 0 is OPEN", () -> {
            s.due("0", Check.of(HEAD + "buy 0 0 1 5;sell 0 1 1 5 first").open(), 0);
            s.due("-1", Check.of(HEAD + "buy 0 0 1 5;sell 0 1 1 4 first").open(), 1);
            s.due("1", Check.of(HEAD + "buy 0 0 1 5;sell 0 1 1 6 first").open(), 0);
            s.due("0 for 0", Check.of(HEAD + "buy 0 0 1 0;sell 0 1 1 0 first").open(), 0);
        });
        s.test("Terms II", "A PIECE, whatever its sell's GAIN", () -> {
            LotLedger x = Check.of(HEAD + "buy 0 0 1 9;buy 0 0 1 1;sell 0 1 2 6 first");
            s.due("the sell", x.gain(2), 2);
            s.due("OPEN", x.open(), 1);
            s.due("the first PIECE", x.piece(2, 0, 3), 1);
            s.due("the second", x.piece(2, 1, 3), 0);
        });
        s.test("Terms II", "with its SHARES", () -> {
            s.due("all of them", Check.of(HEAD + "buy 0 0 9 9;sell 0 1 7 6 first").piece(1, 0, 3), 7);
        });
    }

    private long deferred(int window, int buyDay, int sellDay, int laterDay) {
        return Check.of("ledger window " + window + ";buy 0 " + buyDay + " 2 20;sell 0 " + sellDay + " 1 10 first;buy 0 "
            + laterDay + " 1 5").deferred(1);
    }

    private void windows() {
        s.test("Terms II", "LOTS whose buy was on a DAY no more than window days ahead of the sell", () -> {
            s.due("window 10, 10 days", deferred(10, 10, 20, 99), 10);
            s.due("window 10, 11 days", deferred(10, 9, 20, 99), 0);
            s.due("window 0, that DAY", deferred(0, 20, 20, 99), 10);
            s.due("window 0, a day", deferred(0, 19, 20, 99), 0);
            s.due("window 60, 60 days", deferred(60, 0, 60, 999), 10);
            s.due("window 60, 61 days", deferred(60, 0, 61, 999), 0);
        });
        s.test("Terms II", "at each later buy, on a DAY no more than window behind the sell", () -> {
            s.due("window 10, 10 days", deferred(10, 0, 20, 30), 10);
            s.due("window 10, 11 days", deferred(10, 0, 20, 31), 0);
            s.due("window 0, that DAY", deferred(0, 0, 20, 20), 10);
            s.due("window 0, a day", deferred(0, 0, 20, 21), 0);
            s.due("window 60, 60 days", deferred(60, 0, 939, 999), 10);
            s.due("window 60, 61 days", deferred(60, 0, 938, 999), 0);
        });
        s.test("Terms II", "LOTS of that PAPER", () -> {
            LotLedger x = Check.of("ledger window 9;buy 1 0 2 20;buy 0 0 1 20;buy 2 0 2 20;sell 0 1 1 10 first;buy 1 2 1 1;buy 2 2 1 1");
            s.due("none of others", x.deferrals(), 0);
            s.due("OPEN", x.open(), 1);
        });
        s.test("Terms II", "LOTS that are left", () -> {
            LotLedger x = Check.of("ledger window 9;buy 0 0 1 20;buy 0 0 1 20;sell 0 1 2 10 first");
            s.due("none that are sold", x.deferrals(), 0);
            s.due("OPEN", x.open(), 2);
        });
        s.test("Terms II", "not WASHED", () -> {
            LotLedger x = Check.of("ledger window 9;buy 0 0 3 20;sell 0 1 1 10 first;sell 0 2 1 10 last;sell 0 3 1 99 last");
            s.due("the first sell", x.deferred(1), 10);
            s.due("the second one's rest is WASHED", x.deferred(2), 0);
            LotLedger y = Check.of("ledger window 9;buy 0 0 2 20;sell 0 20 1 10 first;sell 0 20 1 10 first;buy 0 21 1 1");
            s.due("a buy for the first", y.deferred(1), 10);
            s.due("isn't one for the second", y.deferred(2), 0);
        });
        s.test("Terms II", "LOTS in their order", () -> {
            LotLedger x = Check.of("ledger window 9;buy 0 0 1 20;buy 0 5 1 1;buy 0 4 1 1;buy 0 6 1 1;sell 0 9 1 10 first");
            s.due("the one since 4", x.lot(0, 0, 3), 1);
            s.due("the one since 5", x.lot(0, 1, 3), 0);
            s.due("the one since 6", x.lot(0, 2, 3), 0);
        });
        s.test("Terms II", "PIECE by PIECE", () -> {
            LotLedger x = Check.of("ledger window 4;buy 0 0 1 20;buy 0 0 1 30;buy 0 5 1 1;sell 0 9 2 10 first");
            s.due("the first", x.pieceSum(3, 0, 2), 10);
            s.due("the second", x.pieceSum(3, 1, 2), 0);
            s.due("is OPEN", x.piece(3, 1, 3), 1);
        });
        s.test("Terms II", "PIECES that are OPEN, in the order of sells BOOKED, of their PIECES", () -> {
            LotLedger x = Check.of("ledger window 9;buy 0 0 1 20;buy 0 0 1 30;buy 0 0 1 40;sell 0 15 1 10 first;sell 0 14 2 10 first;buy 0 16 1 1");
            s.due("the sell ahead", x.pieceSum(4, 0, 2), 10);
            s.due("its second PIECE", x.pieceSum(4, 1, 2), 0);
            s.due("the sell behind, of less a number", x.deferred(3), 0);
            x.buy(0, 17, 1, 1);
            s.due("then its second PIECE", x.pieceSum(4, 1, 2), 20);
            x.buy(0, 18, 1, 1);
            s.due("then the sell behind", x.deferred(3), 30);
        });
        s.test("Terms II", "a buy ahead of the sell is none later", () -> {
            LotLedger x = Check.of("ledger window 9;buy 0 0 1 20;buy 0 5 1 1;sell 0 4 1 10 first");
            s.due("the buy behind", x.deferred(2), 10);
            LotLedger y = Check.of("ledger window 0;buy 0 4 1 20;sell 0 4 1 10 first;buy 0 4 1 1;sell 0 4 1 99 first");
            s.due("of a DAY by numbers", y.deferred(1), 10);
        });
    }

    private void replacing() {
        String sold = "ledger window 9;buy 0 0 9 20;sell 0 20 3 10 first;";
        s.test("Terms II", "To REPLACE: as many SHARES as both have left", () -> {
            s.due("fewer", Check.of(sold + "buy 0 21 2 1").piece(1, 0, 3), 1);
            s.due("as many", Check.of(sold + "buy 0 21 3 1").piece(1, 0, 3), 0);
            LotLedger x = Check.of(sold + "buy 0 21 4 1");
            s.due("more", x.piece(1, 0, 3), 0);
            s.due("of the LOT they are PARTED, if it has more", x.lot(0, 1, 0), 3);
            s.due("the rest", x.lot(0, 2, 0), 1);
        });
        s.test("Terms II", "LOSS times them by the PIECE's SHARES that are left is DEFERRED (the lower WHOLE)", () -> {
            LotLedger x = Check.of("ledger window 9;buy 0 0 1 10;sell 0 20 1 0 first;split 0 20 3 1;buy 0 21 1 1;buy 0 22 1 1;buy 0 23 1 1");
            s.due("10 by 3", x.lotCost(0, 0), 4);
            s.due("7 by 2", x.lotCost(0, 1), 4);
            s.due("4 by 1", x.lotCost(0, 2), 5);
            s.due("all", x.deferred(1), 10);
            s.due("0 of it is left", x.gain(1), 0);
        });
        s.test("Terms II", "the LOT is WASHED, its CHAIN is 1 more than the PIECE's", () -> {
            LotLedger x = Check.of("ledger window 0;buy 2 0 1 9;sell 2 0 1 5 first;buy 2 0 1 9;sell 2 0 1 5 first;buy 2 0 1 9;sell 2 0 1 5 first;buy 2 0 1 9");
            s.due("0", x.piece(1, 0, 2), 0);
            s.due("1", x.piece(3, 0, 2), 1);
            s.due("2", x.piece(5, 0, 2), 2);
            s.due("3", x.lot(2, 0, 4), 3);
            s.due("WASHED", x.lot(2, 0, 3), 1);
            s.due("all LOSSES", x.lotCost(2, 0), 21);
        });
        s.test("Terms II", "WASHED, also by a LOSS of which nothing comes", () -> {
            LotLedger x = Check.of("ledger window 9;buy 0 0 1 2;sell 0 20 1 1 first;split 0 20 9 1;buy 0 21 1 5");
            s.due("DEFERRED", x.deferred(1), 0);
            s.due("WASHED", x.lot(0, 0, 3), 1);
            s.due("CHAIN", x.lot(0, 0, 4), 1);
            s.due("left", x.piece(1, 0, 3), 8);
        });
        s.test("Terms II", "(With none left it isn't OPEN.)", () -> {
            s.due("none left", Check.of(sold + "buy 0 21 3 1").open(), 0);
            s.due("one left", Check.of(sold + "buy 0 21 2 1").open(), 1);
            LotLedger x = Check.of(sold + "buy 0 21 3 1;buy 0 22 3 1");
            s.due("no more is DEFERRED", x.deferrals(), 30);
            s.due("the next LOT isn't WASHED", x.lot(0, 2, 3), 0);
        });
    }

    private void splits() {
        s.test("Terms II", "A split: each LOT of the PAPER has A times its SHARES by B (the lower WHOLE)", () -> {
            LotLedger x = Check.of(HEAD + "buy 0 0 5 10;buy 0 0 4 1;buy 1 0 5 1;split 0 1 2 3");
            s.due("10 by 3", x.lot(0, 0, 0), 3);
            s.due("8 by 3", x.lot(0, 1, 0), 2);
            s.due("of another PAPER", x.held(1), 5);
            s.due("the COST is as it was", x.lotCost(0, 0), 50);
            s.due("9 for 1", Check.of(HEAD + "buy 0 0 999 1;split 0 1 9 1").held(0), 8991);
            s.due("1 for 9", Check.of(HEAD + "buy 0 0 999 1;split 0 1 1 9").held(0), 111);
            s.due("1 for 1", Check.of(HEAD + "buy 0 0 7 1;split 0 1 1 1").held(0), 7);
            s.due("first A times", Check.of(HEAD + "buy 0 0 7 1;split 0 1 9 8").held(0), 7);
        });
        s.test("Terms II", "each OPEN PIECE's SHARES left likewise", () -> {
            LotLedger x = Check.of(HEAD + "buy 0 0 5 10;buy 1 0 5 10;sell 0 1 5 9 first;sell 1 1 5 9 first;split 0 2 2 3");
            s.due("10 by 3", x.piece(2, 0, 3), 3);
            s.due("its SHARES are as they were", x.piece(2, 0, 0), 5);
            s.due("of another PAPER", x.piece(3, 0, 3), 5);
            s.due("both are OPEN", x.open(), 2);
        });
        s.test("Terms II", "a LOT with none then is no more (its COST is LOST)", () -> {
            LotLedger x = Check.of(HEAD + "buy 0 0 8 1;buy 0 0 9 2;buy 0 0 8 3;buy 0 0 10 4;split 0 1 1 9");
            s.due("LOTS", x.lots(0), 2);
            s.due("in their order", x.lot(0, 0, 2), 1);
            s.due("and the next", x.lot(0, 1, 2), 3);
            s.due("LOST", x.lost(), 32);
            s.due("COST of the others", x.cost(0), 58);
            s.due("all", Check.of(HEAD + "buy 0 0 1 7;split 0 1 1 2").lots(0), 0);
        });
        s.test("Terms II", "a PIECE with none isn't OPEN", () -> {
            s.due("right behind the split", Check.of(HEAD + "buy 0 0 3 5;buy 0 0 4 5;sell 0 20 7 4 first;split 0 20 1 4").open(), 1);
            LotLedger x = Check.of("ledger window 9;buy 0 0 3 5;buy 0 0 4 5;sell 0 20 7 4 first;split 0 20 1 4;buy 0 21 9 1");
            s.due("3 by 4", x.pieceSum(2, 0, 2), 0);
            s.due("4 by 4", x.pieceSum(2, 1, 2), 4);
            s.due("OPEN", x.open(), 0);
        });
        s.test("Terms II", "a split ahead of a buy is none of its LOT", () -> {
            s.due("SHARES", Check.of(HEAD + "split 0 5 9 1;buy 0 5 1 1;buy 0 4 1 1").held(0), 10);
        });
    }

    private void gains() {
        s.test("Terms II", "The GAIN of a sell: of all its PIECES, and what was DEFERRED of them", () -> {
            LotLedger x = Check.of("ledger window 9;buy 0 0 1 20;buy 0 0 1 30;buy 0 0 1 1;sell 0 20 3 10 first;buy 0 21 1 1");
            s.due("-10, -20, 9, and 10", x.gain(3), -11);
            s.due("DEFERRED", x.deferred(3), 10);
            x.buy(0, 22, 1, 1);
            s.due("and 20", x.gain(3), 9);
        });
    }
}
