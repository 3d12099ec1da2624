import java.util.ArrayList;
import java.util.List;
import java.util.NoSuchElementException;
import java.util.Random;

/** Many runs of calls, drawn by fixed seeds, on the program and on the naive ledger: every answer must be the same. */
public final class ModelTest {
    private static final String[] WORDS = {"ledger", "window", "buy", "sell", "split", "unsure", "gain", "up", "down",
        "first", "last", "dearest", "cheapest", "cheapests", "a", "abcdefgh"};
    private static final int[] EDGES = {Integer.MIN_VALUE, -2, -1, 0, 1, 2, 3, 4, 9, 10, 12, 13, 15, 16, 23, 24, 60, 61,
        99, 100, 900, 999, 1000, 65536, 65537, Integer.MAX_VALUE};

    private final Random random;
    private final LotLedger program = new LotLedger();
    private final NaiveLedger model = new NaiveLedger();
    private final List<String> told = new ArrayList<>();
    private final int[] asked;
    private boolean fine = true;

    private ModelTest(int seed, int[] asked) {
        random = new Random(seed);
        this.asked = asked;
    }

    public static void main(String[] args) {
        int runs = args.length > 0 ? Integer.parseInt(args[0]) : 1500;
        int base = args.length > 1 ? Integer.parseInt(args[1]) : 0;
        int[] asked = new int[50];
        for (int seed = base; seed < base + runs; seed++) {
            ModelTest test = new ModelTest(seed, asked);
            test.run();
            if (!test.fine) {
                System.out.println("seed " + seed + ": the program and the model differ:");
                test.told.forEach(System.out::println);
                System.exit(1);
            }
        }
        for (int call = 0; call < 46; call++) {
            if (asked[call] == 0) {
                System.out.println("call " + call + " was never made and not refused");
                System.exit(1);
            }
        }
        System.out.println(runs + " runs: the program and the model agree");
    }

    private void run() {
        for (int round = 0; round < 3 && fine; round++) {
            String text = text();
            if (random.nextInt(4) == 0) text = spoilt(text);
            feed(text);
            int n = random.nextInt(20) == 0 ? number() : text.length();
            compare("ledger " + n + " '" + text + "'", program.ledger(n), model.ledger(n));
            compare("fault", program.fault(), model.fault());
            for (int k = 0; k < 80 && fine; k++) call(random.nextInt(48));
        }
    }

    private void feed(String text) {
        for (int at = 0; at < text.length() && fine; at += 20) {
            int[] w = new int[5];
            for (int i = 0; i < 5; i++) w[i] = Check.word(text, at + 4 * i);
            compare("feed", program.feed(w[0], w[1], w[2], w[3], w[4]), model.feed(w));
        }
    }

    private void compare(String what, long got, long want) {
        told.add(what + " = " + got + (got == want ? "" : ", by the model " + want));
        if (told.size() > 400) told.remove(0);
        fine &= got == want && program.trouble() == model.trouble() && program.where() == model.where();
        if (!fine) told.add("trouble " + program.trouble() + ", by the model " + model.trouble());
    }

    // ---- texts that are mostly right

    private int day() { return random.nextInt(8) == 0 ? random.nextInt(1000) : random.nextInt(70); }
    private int paper() { return random.nextInt(3) == 0 ? random.nextInt(3) : 0; }
    private int shares() { return random.nextInt(6) == 0 ? 1 + random.nextInt(999) : 1 + random.nextInt(30); }
    private int price() { return random.nextInt(9) == 0 ? random.nextInt(1000) : random.nextInt(60); }

    private String text() {
        for (int tries = 0; tries < 40; tries++) {
            String text = anyText();
            if (text.length() > 900) continue;
            try {
                NaiveLedger.read(text);
                return text;
            } catch (NaiveLedger.Fault e) {
                continue;
            }
        }
        return "ledger window 5";
    }

    private String anyText() {
        List<String> lines = new ArrayList<>();
        lines.add("ledger window " + random.nextInt(61));
        List<Integer> sells = new ArrayList<>();
        List<Integer> priced = new ArrayList<>();
        int splits = 0;
        int trades = random.nextInt(17);
        for (int t = 0; t < trades; t++) {
            int kind = random.nextInt(9);
            if (kind == 0 && splits < 4) {
                splits++;
                lines.add("split " + paper() + " " + day() + " " + (1 + random.nextInt(9)) + " " + (1 + random.nextInt(5)));
                continue;
            }
            priced.add(t);
            if (kind < 5 && t > 0) {
                sells.add(t);
                lines.add("sell " + paper() + " " + (day() + 20) + " " + (1 + random.nextInt(25)) + " " + price() + " " + WORDS[9 + random.nextInt(4)]);
            } else {
                lines.add("buy " + paper() + " " + day() + " " + shares() + " " + price());
            }
        }
        addUnsure(lines, priced);
        addGains(lines, sells);
        return String.join(random.nextInt(5) == 0 ? " ; " : ";", lines);
    }

    private void addUnsure(List<String> lines, List<Integer> priced) {
        for (int u = 0; u < 4 && !priced.isEmpty() && random.nextInt(4) > 0; u++) {
            lines.add("unsure " + priced.remove(random.nextInt(priced.size())) + " " + price());
        }
    }

    /** Told as they are, for the most part, so that there are FITS. */
    private void addGains(List<String> lines, List<Integer> sells) {
        for (int g = 0; g < 6 && !sells.isEmpty() && random.nextInt(3) > 0; g++) {
            int t = sells.remove(random.nextInt(sells.size()));
            long sum = random.nextInt(300) - 100;
            try {
                NaiveLedger.Text text = NaiveLedger.read(String.join(";", lines));
                if (random.nextInt(4) > 0) sum = new NaiveLedger.Booking(text.window()).all(text.trades(), 999).gain(t);
            } catch (NaiveLedger.Fault | NaiveLedger.Short e) {
                sum = 0;
            }
            lines.add("gain " + t + (sum < 0 ? " down " : " up ") + Math.abs(sum));
        }
    }

    private String spoilt(String text) {
        StringBuilder out = new StringBuilder(text);
        for (int k = 1 + random.nextInt(3); k > 0 && out.length() > 0; k--) {
            int at = random.nextInt(out.length());
            switch (random.nextInt(8)) {
                case 0: out.deleteCharAt(at); break;
                case 1: out.setCharAt(at, (char) random.nextInt(256)); break;
                case 2: out.insert(at, " ; 0159azbk".charAt(random.nextInt(11))); break;
                case 3: out.insert(at, " " + WORDS[random.nextInt(WORDS.length)] + " "); break;
                case 4: out.insert(at, " " + random.nextInt(1200) + " "); break;
                case 5: out.setLength(at); break;
                case 6: out.append(";" + lineAtRandom()); break;
                default: moveLines(out); break;
            }
        }
        if (out.length() > 880) out.setLength(880);
        return out.toString();
    }

    private String lineAtRandom() {
        StringBuilder line = new StringBuilder(WORDS[random.nextInt(7)]);
        for (int k = random.nextInt(6); k > 0; k--) {
            line.append(' ').append(random.nextInt(4) == 0 ? WORDS[random.nextInt(WORDS.length)] : "" + random.nextInt(1001) % (k == 1 ? 1001 : 12));
        }
        return line.toString();
    }

    private void moveLines(StringBuilder out) {
        List<String> lines = new ArrayList<>(List.of(out.toString().split(";")));
        java.util.Collections.swap(lines, random.nextInt(lines.size()), random.nextInt(lines.size()));
        out.setLength(0);
        out.append(String.join(";", lines));
    }

    // ---- calls

    private int number() {
        return random.nextInt(3) == 0 ? random.nextInt() : EDGES[random.nextInt(EDGES.length)];
    }

    private int small(int below) {
        return random.nextInt(15) == 0 ? number() : random.nextInt(below);
    }

    private int someDay() { return random.nextInt(15) == 0 ? number() : day(); }

    private int someSell() {
        for (int k = 0; k < 10; k++) {
            int t = small(25);
            if (t >= 0 && t < program.size(1) && model.isSell(t)) return t;
        }
        return small(25);
    }

    private void call(int c) {
        int p = small(3), i = small(7), w = small(8), t = someSell(), d = someDay(), r = small(4), n = small(13);
        int s = small(65537), pr = random.nextInt(15) == 0 ? number() : price(), sh = random.nextInt(15) == 0 ? number() : shares();
        String with = " p" + p + " i" + i + " w" + w + " t" + t + " d" + d + " r" + r + " n" + n + " s" + s + " pr" + pr + " sh" + sh;
        String what = "call " + c + with;
        switch (c) {
            case 0: compare(what, program.trade(t, w), model.trade(t, w)); break;
            case 1: compare(what, program.booked(t), model.booked(t)); break;
            case 2: compare(what, program.held(p), model.held(p)); break;
            case 3: compare(what, program.cost(p), model.cost(p)); break;
            case 4: compare(what, program.lots(p), model.lots(p)); break;
            case 5: compare(what, program.lot(p, i, w), model.lot(p, i, w)); break;
            case 6: compare(what, program.lotCost(p, i), model.lotCost(p, i)); break;
            case 7: compare(what, program.mean(p, r == 0), model.mean(p, r == 0)); break;
            case 8: compare(what, program.worth(p, pr), model.worth(p, pr)); break;
            case 9: compare(what, program.chain(), model.chain()); break;
            case 10: compare(what, program.gain(t), model.gain(t)); break;
            case 11: compare(what, program.deferred(t), model.deferred(t)); break;
            case 12: compare(what, program.pieces(t), model.pieces(t)); break;
            case 13: compare(what, program.piece(t, i, r), model.piece(t, i, r)); break;
            case 14: compare(what, program.pieceSum(t, i, r), model.pieceSum(t, i, r)); break;
            case 15: compare(what, program.gains(), model.gains()); break;
            case 16: compare(what, program.deferrals(), model.deferrals()); break;
            case 17: compare(what, program.lost(), model.lost()); break;
            case 18: compare(what, program.open(), model.open()); break;
            case 19: compare(what, program.byRule(t, r), model.byRule(t, r)); break;
            case 20: compare(what, program.leastRule(t), model.leastRule(t)); break;
            case 21: compare(what, program.byWindow(d), model.byWindow(d)); break;
            case 22: compare(what, program.until(d), model.until(d)); break;
            case 23: compare(what, program.heldAt(p, d), model.heldAt(p, d)); break;
            default: callMore(c, what, new int[] {p, i, w, t, d, r, n, s, pr, sh}); break;
        }
        if (program.trouble() == 0) asked[c]++;
    }

    private void callMore(int c, String what, int[] a) {
        int p = a[0], i = a[1], w = a[2], t = a[3], d = a[4], r = a[5], n = a[6], s = a[7], pr = a[8], sh = a[9];
        switch (c) {
            case 24: compare(what, program.later(t), model.later(t)); break;
            case 25: compare(what, program.fits(), model.fits()); break;
            case 26: compare(what, program.fitAt(i), model.fitAt(i)); break;
            case 27: compare(what, program.could(), model.could()); break;
            case 28: compare(what, program.surely(), model.surely()); break;
            case 29: compare(what, program.ask(), model.ask()); break;
            case 30: compare(what, program.askLeaves(), model.askLeaves()); break;
            case 31: compare(what, program.judge(), model.judge()); break;
            case 32: compare(what, program.drawnGains(s, n), model.drawnGains(s, n)); break;
            case 33: compare(what, program.drawnHeld(p, s, n), model.drawnHeld(p, s, n)); break;
            case 34: compare(what, program.buy(p, d, sh, pr), model.buy(p, d, sh, pr)); break;
            case 35: case 46: compare(what, program.sell(p, d, sh, pr, r), model.sell(p, d, sh, pr, r)); break;
            case 36: compare(what, program.split(p, d, 1 + r, 1 + i), model.split(p, d, 1 + r, 1 + i)); break;
            case 37: compare(what, program.strike(t), model.strike(t)); break;
            case 38: case 47: compare(what, program.rule(t, r), model.rule(t, r)); break;
            case 39: compare(what, program.undo() ? 1 : 0, model.undo() ? 1 : 0); break;
            case 40: compare(what, program.image(), model.image()); break;
            case 41: compare(what, program.back(r), model.back(r)); break;
            case 42: compare(what, ledBy(i, true), ledBy(i, false)); break;
            case 43: compare(what, program.size(w), model.size(w)); break;
            case 44: compare(what, program.fault(), model.fault()); break;
            default: compare(what, program.where(), model.where()); break;
        }
    }

    private void compare(String what, boolean got, boolean want) {
        compare(what, got ? 1 : 0, want ? 1 : 0);
    }

    private int ledBy(int i, boolean byProgram) {
        try {
            return byProgram ? program.led(i) : model.led(i);
        } catch (NoSuchElementException e) {
            return -99;
        }
    }
}
