/** Promises 1 to 5: a new object, the tape, the text of a ledger and its faults. */
public final class TextTest {
    private static final Check check = new Check();

    public static void main(String[] args) {
        promise1();
        promise2();
        promise3();
        promises4And5();
        form();
        trades();
        again();
        bounds();
        many();
        lacks();
        tooShort();
        firstFromTheLeft();
        check.end();
    }

    private static void fault(String text, int number, int place) {
        LotLedger x = new LotLedger();
        check.due("'" + text + "'", Check.read(x, text), -1, x, 4);
        check.due("'" + text + "' fault()", x.fault(), number);
        check.due("'" + text + "' where()", x.where(), place);
        check.due("'" + text + "' size(7)", x.size(7), 0);
    }

    private static void good(String text, int trades) {
        LotLedger x = new LotLedger();
        check.due("'" + text + "'", Check.read(x, text), trades, x, 0);
        check.due("'" + text + "' fault()", x.fault(), 0);
    }

    private static void promise1() {
        LotLedger x = new LotLedger();
        for (int what = 0; what < 8; what++) {
            check.due("new, size " + what, x.size(what), 0);
        }
        check.due("new, trouble", x.trouble(), 0);
        check.due("new, fault", x.fault(), 0);
        check.due("new, where", x.where(), -1);
        check.due("new, held", x.held(0), -1, x, 1);
        check.due("new, gains", x.gains(), 0, x, 1);
        check.due("NONE", LotLedger.NONE, -1);
    }

    private static void promise2() {
        LotLedger x = new LotLedger();
        for (int k = 1; k <= 45; k++) {
            check.due("feed " + k, x.feed(0x20202020, -1, 0, 7, 9), 20 * k);
        }
        x.held(0);
        check.due("feed beyond 900", x.feed(1, 2, 3, 4, 5), -1, x, 1);
        check.due("none came", x.size(7), 900);
        check.due("highest byte first", x.ledger(900), -1);
        check.due("blanks, then 255", x.where(), 4);
        check.due("the tape is empty", x.feed(0, 0, 0, 0, 0), 20);
        check.due("the lowest byte last", x.ledger(4), -1);
        check.due("a byte 0", x.where(), 0);
        Check.feed(x, "ledger window 7");
        check.due("four to a number", x.ledger(15), 0);
    }

    private static void promise3() {
        LotLedger x = new LotLedger();
        Check.feed(x, "ledger window 3;buy 0 1 2 3");
        check.due("more than there is", x.ledger(41), -1, x, 2);
        check.due("below 0", x.ledger(-1), -1, x, 2);
        check.due("least", x.ledger(Integer.MIN_VALUE), -1, x, 2);
        check.due("most", x.ledger(Integer.MAX_VALUE), -1, x, 2);
        check.due("the tape stays", x.size(7), 40);
        check.due("all of it", x.ledger(40), 1, x, 0);
        check.due("the tape is empty", x.size(7), 0);
        check.due("act", x.buy(1, 5, 5, 5), 1);
        check.due("image", x.image(), 0);
        check.due("a fault", Check.read(x, "ledger window 61"), -1, x, 4);
        check.due("the ledger stays", x.size(0), 3);
        check.due("its trades stay", x.size(1), 2);
        check.due("its acts stay", x.size(5), 1);
        check.due("its images stay", x.size(6), 1);
        check.due("another", Check.read(x, "ledger window 4"), 0, x, 0);
        check.due("its window", x.size(0), 4);
        check.due("no trades", x.size(1), 0);
        check.due("nothing to undo", x.size(5), 0);
        check.due("no images", x.size(6), 0);
        Check.feed(x, "ledger window 5;buy x");
        check.due("the first bytes alone", x.ledger(15), 0);
        check.due("the rest is gone", x.size(7), 0);
        Check.feed(x, "ledger window 12");
        check.due("a number ends with the first bytes", x.ledger(15), 0);
        check.due("its window", x.size(0), 1);
        Check.feed(x, "ledger window 1;buy 0 0 1 1;sell 0 0 1 1 lasts");
        check.due("a word ends with the first bytes", x.ledger(45), 2);
    }

    private static void promises4And5() {
        LotLedger x = new LotLedger();
        Check.read(x, "ledger window x");
        check.due("fault", x.fault(), 1);
        check.due("where", x.where(), 14);
        x.feed(1, 2, 3, 4, 5);
        x.size(0);
        Check.led(x, 0);
        check.due("where behind calls that are never refused", x.where(), 14);
        check.due("refused by 2", x.ledger(21), -1, x, 2);
        check.due("fault of the one before", x.fault(), 1);
        check.due("where, refused by 2", x.where(), -1);
        x.ledger(20);
        check.due("where again", x.where(), 0);
        x.undo();
        check.due("where behind undo()", x.where(), -1);
        check.due("fault behind undo()", x.fault(), 1);
        Check.read(x, "ledger window 1");
        check.due("no fault", x.fault(), 0);
        check.due("no place", x.where(), -1);
    }

    private static void form() {
        fault("", 1, 0);
        fault("   ", 1, 3);
        fault(";", 1, 0);
        fault("Ledger window 1", 1, 0);
        fault("ledger", 1, 6);
        fault("ledger  ", 1, 8);
        fault("ledger window", 1, 13);
        fault("ledger 1", 1, 7);
        fault("ledger window 1 1", 1, 16);
        fault("ledger window 1;;", 1, 16);
        fault("ledger window 1; ", 1, 17);
        fault("ledger window 1 buy", 1, 16);
        fault("ledger window 1;buy 0 0 1 1 1", 1, 28);
        fault("ledger window 1;buy 0 0 1;", 1, 25);
        fault("ledger window 1;sell 0 0 1 1", 1, 28);
        fault("ledger window 1;sell 0 0 1 1 best", 1, 29);
        fault("ledger window 1;split 0 0 first", 1, 26);
        fault("ledger window\t1", 1, 13);
        fault("ledgerwindow 1", 1, 0);
        fault("ledgerz window 1", 1, 0);
        fault("wedger window 1", 1, 0);
        fault("ledger window 1;guy 0 0 1 1", 1, 16);
        fault("ledger window 1;buy 0 0 9 1;sell 0 0 1 1 first;gain 1 up", 1, 56);
        fault("ledger window 1;buy 0 0 9 1;sell 0 0 1 1 first;gain 1 up first", 1, 57);
        fault("ledger window 1;buy 0 0 9 1;sell 0 0 1 1 first;gain 1", 1, 53);
        fault("ledger window 1;buy 0 0 9 1;sell 0 0 1 1 first;unsure 1", 1, 55);
        fault("ledger window 0000001", 1, 14);
        fault("ledger window 1;unsure first 1", 1, 23);
        fault("ledger window 1;gain first up 1", 1, 21);
        fault("ledger window 1;abcdefgh", 1, 16);
        fault("ledger window 1;first", 1, 16);
        fault("ledger window 1;buy 0 0 1 1;sell 0 0 1 1 first;gain 1 1 1", 1, 54);
        good("ledger window 1", 0);
        good("  ledger   window 000001  ", 0);
        good("ledger window1;buy 0 0 1 1", 1);
        good("ledger window 60 ; buy0 999 999 999;sell 0 999 999 0first", 2);
    }

    private static void trades() {
        String head = "ledger window 1;buy 0 0 9 1;sell 0 1 1 1 first;split 0 2 1 1;";
        fault(head + "unsure 2 1", 2, head.length() + 7);
        fault(head + "unsure 3 1", 2, head.length() + 7);
        fault(head + "unsure 999999 1", 2, head.length() + 7);
        fault(head + "gain 0 up 1", 2, head.length() + 5);
        fault(head + "gain 2 up 1", 2, head.length() + 5);
        fault(head + "gain 3 up 1", 2, head.length() + 5);
        fault(head + "unsure 3 1;buy 0 0 1 1", 2, head.length() + 7);
        good(head + "unsure 0 1;unsure 1 2;gain 1 down 999999", 3);
    }

    private static void again() {
        String head = "ledger window 1;buy 0 0 9 1;sell 0 1 1 1 first;";
        fault(head + "unsure 1 1;unsure 0 1;unsure 1 2", 3, head.length() + 29);
        fault(head + "gain 1 up 1;gain 1 up 1", 3, head.length() + 17);
        fault(head + "ledger window 1", 3, head.length());
        fault(head + "ledger x", 3, head.length());
    }

    private static void bounds() {
        fault("ledger window 61", 4, 14);
        fault("ledger window 1;buy 3 0 1 1", 4, 20);
        fault("ledger window 1;buy 0 1000 1 1", 4, 22);
        fault("ledger window 1;buy 0 0 0 1", 4, 24);
        fault("ledger window 1;buy 0 0 1000 1", 4, 24);
        fault("ledger window 1;buy 0 0 1 1000", 4, 26);
        fault("ledger window 1;split 0 0 0 1", 4, 26);
        fault("ledger window 1;split 0 0 10 1", 4, 26);
        fault("ledger window 1;split 0 0 1 0", 4, 28);
        fault("ledger window 1;split 0 0 1 10", 4, 28);
        fault("ledger window 1;buy 0 0 1 1;unsure 0 1000", 4, 37);
        good("ledger window 0;buy 2 999 999 999;split 2 999 9 9;buy 0 0 1 0;unsure 2 999;unsure 0 0", 3);
    }

    private static String lines(String head, String line, int times) {
        StringBuilder text = new StringBuilder(head);
        for (int k = 0; k < times; k++) {
            text.append(';').append(line);
        }
        return text.toString();
    }

    private static void many() {
        String buys = lines("ledger window 1", "buy 0 0 1 1", 16);
        good(buys, 16);
        fault(buys + ";buy 0 0 1 1", 5, buys.length() + 1);
        fault(buys + ";sell x", 5, buys.length() + 1);
        fault(buys + ";split", 5, buys.length() + 1);
        String splits = lines("ledger window 1", "split 0 0 1 1", 4);
        good(splits + ";buy 0 0 1 1", 5);
        fault(splits + ";split 0 0 1 1", 5, splits.length() + 1);
        String unsure = buys + ";unsure 0 1;unsure 1 1;unsure 2 1;unsure 3 1";
        good(unsure, 16);
        fault(unsure + ";unsure 0 1", 5, unsure.length() + 1);
        String sells = lines("ledger window 1;buy 0 0 9 1", "sell 0 1 1 1 last", 7);
        String gains = sells + ";gain 1 up 0;gain 2 up 0;gain 3 up 0;gain 4 up 0;gain 5 up 0;gain 6 up 0";
        good(gains, 8);
        fault(gains + ";gain 7 up 0", 5, gains.length() + 1);
    }

    private static void lacks() {
        fault("buy 0 0 1 1;ledger window 1", 6, 0);
        fault(" sell", 6, 1);
        fault("split", 6, 0);
        fault("unsure 0 0", 6, 0);
        fault("gain 0 up 0", 6, 0);
    }

    private static void tooShort() {
        fault("ledger window 1;sell 0 0 1 1 first ", 7, 35);
        fault("ledger window 1;buy 0 1 1 1;sell 0 0 1 1 first", 7, 46);
        fault("ledger window 1;buy 1 0 1 1;sell 0 0 1 1 first", 7, 46);
        fault("ledger window 1;sell 0 0 1 1 first;buy 0 0 1 1", 7, 46);
        fault("ledger window 1;buy 0 0 3 1;split 0 0 1 2;sell 0 0 2 1 last", 7, 59);
        good("ledger window 1;sell 0 1 1 1 first;buy 0 0 1 1", 2);
        good("ledger window 1;buy 0 0 3 1;split 0 0 1 2;sell 0 0 1 1 last", 3);
    }

    private static void firstFromTheLeft() {
        fault("ledger window 61;buy ?", 4, 14);
        fault("ledger window 1;sell 0 0 1 1 first;buy 3 0 0 0", 4, 39);
        fault("ledger window 1;unsure 0 1000;?", 2, 23);
        fault("?ledger window 61", 1, 0);
        fault("ledger window 1;sell 0 0 1 1 first;x", 1, 35);
    }
}
