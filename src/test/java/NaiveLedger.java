import java.util.ArrayList;
import java.util.Comparator;
import java.util.List;
import java.util.NoSuchElementException;

/**
 * The document once more, written for plainness alone: everything is worked out anew from the list of trades at each
 * question, nothing is kept. The program is compared with it over many runs of calls.
 */
final class NaiveLedger {
    record Trade(int sort, int paper, int day, int shares, int price, int rule) {
        Trade withPrice(int other) { return new Trade(sort, paper, day, shares, other, rule); }
        Trade withRule(int other) { return new Trade(sort, paper, day, shares, price, other); }
        Trade withDay(int other) { return new Trade(sort, paper, other, shares, price, rule); }
    }

    record Pair(int trade, int number) { }

    record Text(int window, List<Trade> trades, List<Pair> unsure, List<Pair> gains) { }

    static final class Lot {
        int paper, shares, day, buy, chain;
        long cost;
        boolean washed;
    }

    static final class Piece {
        int sell, paper, day, shares, buy, chain, left;
        long cost, proceeds, loss, deferred;
        long gain() { return proceeds - cost + deferred; }
    }

    static final class Short extends Exception {
        private static final long serialVersionUID = 1L;
    }

    static final class Fault extends Exception {
        private static final long serialVersionUID = 1L;
        final int number, place;
        Fault(int number, int place) { this.number = number; this.place = place; }
    }

    /** What comes of trades, booked from nothing. */
    static final class Booking {
        final List<Lot> lots = new ArrayList<>();
        final List<Piece> pieces = new ArrayList<>();
        long lost;
        final int window;

        Booking(int window) { this.window = window; }

        Booking all(List<Trade> trades, int lastDay) throws Short {
            for (int t : order(trades)) {
                if (trades.get(t).day <= lastDay) one(t, trades.get(t));
            }
            return this;
        }

        void one(int t, Trade trade) throws Short {
            if (trade.sort == 0) buy(t, trade);
            else if (trade.sort == 1) sell(t, trade);
            else split(trade);
        }

        void buy(int t, Trade trade) {
            Lot lot = new Lot();
            lot.paper = trade.paper;
            lot.shares = trade.shares;
            lot.cost = (long) trade.shares * trade.price;
            lot.day = trade.day;
            lot.buy = t;
            lots.add(lot);
            for (Piece piece : pieces) {
                Lot last = lots.get(lots.size() - 1);
                if (piece.paper == trade.paper && piece.left > 0 && !last.washed && trade.day <= piece.day + window) {
                    replace(last, piece);
                }
            }
        }

        Lot part(Lot lot, int shares) {
            if (shares == lot.shares) return lot;
            Lot own = new Lot();
            own.paper = lot.paper;
            own.shares = shares;
            own.cost = Math.floorDiv(lot.cost * shares, (long) lot.shares);
            own.day = lot.day;
            own.buy = lot.buy;
            own.washed = lot.washed;
            own.chain = lot.chain;
            lots.add(lots.indexOf(lot), own);
            lot.shares -= shares;
            lot.cost -= own.cost;
            return own;
        }

        void replace(Lot lot, Piece piece) {
            int shares = Math.min(lot.shares, piece.left);
            Lot own = part(lot, shares);
            long moved = Math.floorDiv(piece.loss * shares, (long) piece.left);
            own.cost += moved;
            own.washed = true;
            if (piece.chain + 1 > own.chain) own.chain = piece.chain + 1;
            piece.loss -= moved;
            piece.deferred += moved;
            piece.left -= shares;
        }

        List<Lot> of(int paper) {
            List<Lot> found = new ArrayList<>();
            for (Lot lot : lots) if (lot.paper == paper) found.add(lot);
            return found;
        }

        int held(int paper) {
            int sum = 0;
            for (Lot lot : of(paper)) sum += lot.shares;
            return sum;
        }

        long cost(int paper) {
            long sum = 0;
            for (Lot lot : of(paper)) sum += lot.cost;
            return sum;
        }

        void sell(int t, Trade trade) throws Short {
            if (held(trade.paper) < trade.shares) throw new Short();
            List<Lot> queue = of(trade.paper);
            if (trade.rule == 1) java.util.Collections.reverse(queue);
            Comparator<Lot> byPrice = (a, b) -> Long.compare(a.cost * b.shares, b.cost * a.shares);
            if (trade.rule == 2) queue.sort(byPrice.reversed());
            if (trade.rule == 3) queue.sort(byPrice);
            List<Piece> own = new ArrayList<>();
            int wanted = trade.shares;
            for (Lot lot : queue) {
                if (wanted == 0) break;
                Lot taken = part(lot, Math.min(wanted, lot.shares));
                wanted -= taken.shares;
                lots.remove(taken);
                own.add(pieceOf(t, trade, taken));
            }
            pieces.addAll(own);
            for (Piece piece : own) {
                for (Lot lot : of(trade.paper)) {
                    if (piece.left > 0 && !lot.washed && lot.day >= trade.day - window) replace(lot, piece);
                }
            }
        }

        Piece pieceOf(int t, Trade trade, Lot lot) {
            Piece piece = new Piece();
            piece.sell = t;
            piece.paper = trade.paper;
            piece.day = trade.day;
            piece.shares = lot.shares;
            piece.buy = lot.buy;
            piece.chain = lot.chain;
            piece.cost = lot.cost;
            piece.proceeds = (long) lot.shares * trade.price;
            if (piece.proceeds < piece.cost) {
                piece.left = lot.shares;
                piece.loss = piece.cost - piece.proceeds;
            }
            return piece;
        }

        void split(Trade trade) {
            for (Lot lot : of(trade.paper)) {
                lot.shares = lot.shares * trade.shares / trade.price;
                if (lot.shares == 0) {
                    lost += lot.cost;
                    lots.remove(lot);
                }
            }
            for (Piece piece : pieces) {
                if (piece.paper == trade.paper) piece.left = piece.left * trade.shares / trade.price;
            }
        }

        List<Piece> piecesOf(int t) {
            List<Piece> found = new ArrayList<>();
            for (Piece piece : pieces) if (piece.sell == t) found.add(piece);
            return found;
        }

        long gains() {
            long sum = 0;
            for (Piece piece : pieces) sum += piece.gain();
            return sum;
        }

        long gain(int t) {
            long sum = 0;
            for (Piece piece : piecesOf(t)) sum += piece.gain();
            return sum;
        }

        long deferred(int t) {
            long sum = 0;
            for (Piece piece : piecesOf(t)) sum += piece.deferred;
            return sum;
        }
    }

    static List<Integer> order(List<Trade> trades) {
        List<Integer> order = new ArrayList<>();
        for (int day = 0; day <= 999; day++) {
            for (int t = 0; t < trades.size(); t++) if (trades.get(t).day == day) order.add(t);
        }
        return order;
    }

    // ---- the text: first all tokens, then all lines, each with the shape that its word asks for

    record Token(char kind, String text, int place) { }

    static List<Token> tokens(String text) {
        List<Token> found = new ArrayList<>();
        java.util.regex.Matcher m = java.util.regex.Pattern.compile("([a-z]+)|([0-9]+)|(;)|( +)|([\\s\\S])").matcher(text);
        while (m.find()) {
            String s = m.group();
            if (m.group(4) != null) continue;
            char kind = '?';
            if (m.group(1) != null && s.length() <= 8) kind = 'w';
            if (m.group(2) != null && s.length() <= 6) kind = 'n';
            if (m.group(3) != null) kind = ';';
            found.add(new Token(kind, s, m.start()));
        }
        found.add(new Token('$', "", text.length()));
        return found;
    }

    static Text read(String text) throws Fault {
        Text told = null;
        List<Token> line = new ArrayList<>();
        for (Token token : tokens(text)) {
            line.add(token);
            if (token.kind == ';' || token.kind == '$') {
                told = readLine(line, told);
                line = new ArrayList<>();
            }
        }
        try {
            new Booking(told.window).all(told.trades, 999);
        } catch (Short e) {
            throw new Fault(7, text.length());
        }
        return told;
    }

    static Text readLine(List<Token> line, Text told) throws Fault {
        Token head = line.get(0);
        String shape = switch (head.kind == 'w' ? head.text : "") {
            case "ledger" -> "W0";
            case "buy" -> "PDSp";
            case "sell" -> "PDSpR";
            case "split" -> "PDAA";
            case "unsure" -> "Up";
            case "gain" -> "GYn";
            default -> throw new Fault(1, head.place);
        };
        boolean isLedger = head.text.equals("ledger");
        if (isLedger && told != null) throw new Fault(3, head.place);
        if (!isLedger && told == null) throw new Fault(6, head.place);
        if (!isLedger && isFull(head.text, told)) throw new Fault(5, head.place);
        int[] v = new int[8];
        for (int i = 0; i < shape.length(); i++) v[i] = value(shape.charAt(i), line.get(i + 1), told);
        Token last = line.get(shape.length() + 1);
        if (last.kind != ';' && last.kind != '$') throw new Fault(1, last.place);
        switch (head.text) {
            case "ledger": return new Text(v[1], new ArrayList<>(), new ArrayList<>(), new ArrayList<>());
            case "buy": told.trades.add(new Trade(0, v[0], v[1], v[2], v[3], -2)); return told;
            case "sell": told.trades.add(new Trade(1, v[0], v[1], v[2], v[3], v[4])); return told;
            case "split": told.trades.add(new Trade(2, v[0], v[1], v[2], v[3], -2)); return told;
            case "unsure": told.unsure.add(new Pair(v[0], v[1])); return told;
            default: told.gains.add(new Pair(v[0], v[1] * v[2])); return told;
        }
    }

    static boolean isFull(String word, Text told) {
        if (word.equals("unsure")) return told.unsure.size() == 4;
        if (word.equals("gain")) return told.gains.size() == 6;
        return told.trades.size() == 16 || word.equals("split") && splits(told.trades) == 4;
    }

    static int splits(List<Trade> trades) {
        return (int) trades.stream().filter(x -> x.sort == 2).count();
    }

    static int value(char what, Token token, Text told) throws Fault {
        Fault form = new Fault(1, token.place);
        if ("WRY".indexOf(what) >= 0) {
            if (token.kind != 'w') throw form;
            if (what == 'W' && token.text.equals("window")) return 0;
            if (what == 'R') {
                int r = List.of("first", "last", "dearest", "cheapest").indexOf(token.text);
                if (r >= 0) return r;
            }
            if (what == 'Y' && token.text.equals("up")) return 1;
            if (what == 'Y' && token.text.equals("down")) return -1;
            throw form;
        }
        if (token.kind != 'n') throw form;
        int n = Integer.parseInt(token.text);
        if (what == 'U' || what == 'G') {
            if (n >= told.trades.size()) throw new Fault(2, token.place);
            int sort = told.trades.get(n).sort;
            if (sort == 2 || what == 'G' && sort == 0) throw new Fault(2, token.place);
            for (Pair pair : what == 'U' ? told.unsure : told.gains) {
                if (pair.trade == n) throw new Fault(3, token.place);
            }
            return n;
        }
        int least = what == 'S' || what == 'A' ? 1 : 0;
        int most = switch (what) { case '0' -> 60; case 'P' -> 2; case 'A' -> 9; case 'n' -> 999999; default -> 999; };
        if (n < least || n > most) throw new Fault(4, token.place);
        return n;
    }

    // ---- the calls

    private final StringBuilder tape = new StringBuilder();
    private Text told;
    private List<Trade> now = new ArrayList<>();
    private final List<List<Trade>> past = new ArrayList<>();
    private final List<List<Trade>> images = new ArrayList<>();
    private int trouble, fault, place;

    private int no(int number) { trouble = number; return -1; }
    private int yes(int answer) { trouble = 0; return answer; }
    private long yes(long answer) { trouble = 0; return answer; }

    private Booking book() {
        try {
            return new Booking(told.window).all(now, 999);
        } catch (Short e) {
            throw new IllegalStateException("the trades now are short");
        }
    }

    private boolean paper(int p) { return told != null && p >= 0 && p <= 2; }
    private boolean isTrade(int t) { return told != null && t >= 0 && t < now.size(); }
    boolean isSell(int t) { return isTrade(t) && now.get(t).sort == 1; }
    private static boolean in(int x, int least, int most) { return least <= x && x <= most; }

    int feed(int... words) {
        if (tape.length() > 880) return -1;
        for (int word : words) {
            for (int i = 0; i < 4; i++) tape.append((char) (word >> 24 - 8 * i & 255));
        }
        return tape.length();
    }

    int ledger(int n) {
        if (n < 0 || n > tape.length()) return no(2);
        String text = tape.substring(0, n);
        tape.setLength(0);
        try {
            told = read(text);
        } catch (Fault e) {
            fault = e.number;
            place = e.place;
            return no(4);
        }
        fault = 0;
        now = new ArrayList<>(told.trades);
        past.clear();
        images.clear();
        return yes(now.size());
    }

    int fault() { return fault; }
    int where() { return trouble == 4 ? place : -1; }

    int trade(int t, int what) {
        if (!isTrade(t) || !in(what, 0, 6)) return no(1);
        Trade x = now.get(t);
        return yes(new int[] {x.sort, x.paper, x.day, x.shares, x.price, x.rule, order(now).indexOf(t)}[what]);
    }

    int booked(int i) { return isTrade(i) ? yes(order(now).get(i)) : no(1); }
    int held(int p) { return paper(p) ? yes(book().held(p)) : no(1); }
    long cost(int p) { return paper(p) ? yes(book().cost(p)) : no(1); }
    int lots(int p) { return paper(p) ? yes(book().of(p).size()) : no(1); }

    int lot(int p, int i, int what) {
        if (!paper(p) || !in(i, 0, book().of(p).size() - 1) || !in(what, 0, 4)) return no(1);
        Lot x = book().of(p).get(i);
        return yes(new int[] {x.shares, x.day, x.buy, x.washed ? 1 : 0, x.chain}[what]);
    }

    long lotCost(int p, int i) {
        if (!paper(p) || !in(i, 0, book().of(p).size() - 1)) return no(1);
        return yes(book().of(p).get(i).cost);
    }

    long mean(int p, boolean lower) {
        if (!paper(p)) return no(1);
        java.math.BigInteger c = java.math.BigInteger.valueOf(book().cost(p));
        java.math.BigInteger s = java.math.BigInteger.valueOf(book().held(p));
        if (s.signum() == 0) return yes(lower ? 1L : 0L);
        return yes((lower ? s : c).divide(c.gcd(s)).longValue());
    }

    long worth(int p, int price) {
        if (!paper(p)) return no(1) + 1;
        if (!in(price, 0, 999)) return no(2) + 1;
        return yes((long) book().held(p) * price - book().cost(p));
    }

    int chain() {
        if (told == null) return no(1);
        return yes(book().lots.stream().mapToInt(x -> x.chain).max().orElse(0));
    }

    long gain(int t) { return isSell(t) ? yes(book().gain(t)) : no(1) + 1; }
    long deferred(int t) { return isSell(t) ? yes(book().deferred(t)) : no(1); }
    int pieces(int t) { return isSell(t) ? yes(book().piecesOf(t).size()) : no(1); }

    int piece(int t, int i, int what) {
        if (!isSell(t) || !in(i, 0, book().piecesOf(t).size() - 1) || !in(what, 0, 3)) return no(1);
        Piece x = book().piecesOf(t).get(i);
        return yes(new int[] {x.shares, x.buy, x.chain, x.left}[what]);
    }

    long pieceSum(int t, int i, int what) {
        if (!isSell(t) || !in(i, 0, book().piecesOf(t).size() - 1) || !in(what, 0, 2)) return no(1);
        Piece x = book().piecesOf(t).get(i);
        return yes(new long[] {x.cost, x.proceeds, x.deferred}[what]);
    }

    long gains() { return told != null ? yes(book().gains()) : no(1) + 1; }
    long deferrals() { return told != null ? yes(book().pieces.stream().mapToLong(x -> x.deferred).sum()) : no(1); }
    long lost() { return told != null ? yes(book().lost) : no(1); }
    int open() { return told != null ? yes((int) book().pieces.stream().filter(x -> x.left > 0).count()) : no(1); }

    private long gainsOf(List<Trade> trades, int window, int lastDay) {
        try {
            return yes(new Booking(window).all(trades, lastDay).gains());
        } catch (Short e) {
            return no(5) + 1;
        }
    }

    private List<Trade> with(int t, Trade other) {
        List<Trade> trades = new ArrayList<>(now);
        trades.set(t, other);
        return trades;
    }

    long byRule(int t, int rule) {
        if (!isSell(t)) return no(1) + 1;
        if (!in(rule, 0, 3)) return no(2) + 1;
        return gainsOf(with(t, now.get(t).withRule(rule)), told.window, 999);
    }

    int leastRule(int t) {
        if (!isSell(t)) return no(1);
        int best = -1;
        long least = Long.MAX_VALUE;
        for (int rule = 3; rule >= 0; rule--) {
            long all = byRule(t, rule);
            if (trouble == 0 && all <= least) {
                best = rule;
                least = all;
            }
        }
        return yes(best);
    }

    long byWindow(int w) {
        if (told == null) return no(1) + 1;
        if (!in(w, 0, 60)) return no(2) + 1;
        return gainsOf(now, w, 999);
    }

    long until(int day) {
        if (told == null) return no(1) + 1;
        if (!in(day, 0, 999)) return no(2) + 1;
        return gainsOf(now, told.window, day);
    }

    int heldAt(int p, int day) {
        if (!paper(p)) return no(1);
        if (!in(day, 0, 999)) return no(2);
        try {
            return yes(new Booking(told.window).all(now, day).held(p));
        } catch (Short e) {
            throw new IllegalStateException("short up to a day");
        }
    }

    int later(int t) {
        if (!isSell(t)) return no(1);
        for (int d = 0; d <= 99; d++) {
            int day = now.get(t).day + d;
            if (day > 999) break;
            try {
                if (new Booking(told.window).all(with(t, now.get(t).withDay(day)), 999).deferred(t) == 0) return yes(d);
            } catch (Short e) {
                continue;
            }
        }
        return yes(-2);
    }

    private List<Integer> fitting() {
        List<Integer> found = new ArrayList<>();
        for (int set = 0; set < 1 << told.unsure.size(); set++) {
            List<Trade> trades = new ArrayList<>(told.trades);
            for (int u = 0; u < told.unsure.size(); u++) {
                Pair pair = told.unsure.get(u);
                if ((set & 1 << u) != 0) trades.set(pair.trade, trades.get(pair.trade).withPrice(pair.number));
            }
            try {
                Booking booking = new Booking(told.window).all(trades, 999);
                if (told.gains.stream().allMatch(g -> booking.gain(g.trade) == g.number)) found.add(set);
            } catch (Short e) {
                continue;
            }
        }
        return found;
    }

    int fits() { return told != null ? yes(fitting().size()) : no(1); }

    int fitAt(int i) {
        if (told == null || !in(i, 0, fitting().size() - 1)) return no(1);
        return yes(fitting().get(i));
    }

    int could() { return told != null ? yes(fitting().stream().reduce(0, (a, b) -> a | b)) : no(1); }
    int surely() { return told != null ? yes(fitting().stream().reduce((a, b) -> a & b).orElse(0)) : no(1); }

    private int leftBy(int u) {
        int with = (int) fitting().stream().filter(s -> (s & 1 << u) != 0).count();
        return Math.max(with, fitting().size() - with);
    }

    int ask() {
        if (told == null) return no(1);
        if (fitting().isEmpty() || told.unsure.isEmpty()) return yes(-2);
        int best = told.unsure.size() - 1;
        for (int u = best; u >= 0; u--) if (leftBy(u) <= leftBy(best)) best = u;
        return yes(best);
    }

    int askLeaves() {
        int asked = ask();
        return asked < 0 ? asked : yes(leftBy(asked));
    }

    int judge() {
        if (told == null) return no(1);
        try {
            Booking booking = new Booking(told.window).all(told.trades, 999);
            for (int g = 0; g < told.gains.size(); g++) {
                if (booking.gain(told.gains.get(g).trade) != told.gains.get(g).number) return yes(g);
            }
        } catch (Short e) {
            throw new IllegalStateException("short as told");
        }
        return yes(-2);
    }

    private Booking drawn(int seed, int n) {
        Booking booking = book();
        int day = now.stream().mapToInt(x -> x.day).max().orElse(0);
        long s = seed;
        for (int k = 0; k < n; k++) {
            int[] draws = new int[4];
            for (int i = 0; i < 4; i++) {
                s = (75 * s + 74) % 65537;
                draws[i] = (int) s;
            }
            try {
                booking.one(now.size() + k, new Trade(draws[1] % 3 == 0 ? 1 : 0, draws[0] % 3, day, draws[2] % 20 + 1, draws[3] % 100, 0));
            } catch (Short e) {
                continue;
            }
        }
        return booking;
    }

    long drawnGains(int seed, int n) {
        if (told == null) return no(1) + 1;
        if (!in(seed, 0, 65536) || !in(n, 0, 12)) return no(2) + 1;
        return yes(drawn(seed, n).gains());
    }

    int drawnHeld(int p, int seed, int n) {
        if (!paper(p)) return no(1);
        if (!in(seed, 0, 65536) || !in(n, 0, 12)) return no(2);
        return yes(drawn(seed, n).held(p));
    }

    private boolean act(List<Trade> trades) {
        gainsOf(trades, told.window, 999);
        if (trouble != 0) return false;
        past.add(now);
        if (past.size() > 16) past.remove(0);
        now = trades;
        return true;
    }

    private int add(Trade trade) {
        if (now.size() == 24 || trade.sort == 2 && splits(now) == 4) return no(3);
        List<Trade> trades = new ArrayList<>(now);
        trades.add(trade);
        return act(trades) ? now.size() - 1 : -1;
    }

    int buy(int p, int day, int shares, int price) {
        if (!paper(p)) return no(1);
        if (!in(day, 0, 999) || !in(shares, 1, 999) || !in(price, 0, 999)) return no(2);
        return add(new Trade(0, p, day, shares, price, -2));
    }

    int sell(int p, int day, int shares, int price, int rule) {
        if (!paper(p) || !in(rule, 0, 3)) return no(1);
        if (!in(day, 0, 999) || !in(shares, 1, 999) || !in(price, 0, 999)) return no(2);
        return add(new Trade(1, p, day, shares, price, rule));
    }

    int split(int p, int day, int a, int b) {
        if (!paper(p)) return no(1);
        if (!in(day, 0, 999) || !in(a, 1, 9) || !in(b, 1, 9)) return no(2);
        return add(new Trade(2, p, day, a, b, -2));
    }

    int strike(int t) {
        if (!isTrade(t)) return no(1);
        List<Trade> trades = new ArrayList<>(now);
        trades.remove(t);
        return act(trades) ? now.size() : -1;
    }

    int rule(int t, int rule) {
        if (!isSell(t) || !in(rule, 0, 3)) return no(1);
        int had = now.get(t).rule;
        return act(with(t, now.get(t).withRule(rule))) ? had : -1;
    }

    boolean undo() {
        if (past.isEmpty()) return no(6) == 0;
        now = past.remove(past.size() - 1);
        return yes(1) == 1;
    }

    int image() {
        if (told == null) return no(1);
        if (images.size() == 3) return no(3);
        images.add(now);
        return yes(images.size() - 1);
    }

    boolean back(int image) {
        if (!in(image, 0, images.size() - 1)) return no(1) == 0;
        now = images.get(image);
        past.clear();
        return yes(1) == 1;
    }

    int led(int i) {
        List<Integer> found = new ArrayList<>();
        for (int t = 0; t < now.size(); t++) if (isSell(t) && book().deferred(t) > 0) found.add(t);
        if (!in(i, 0, found.size() - 1)) throw new NoSuchElementException();
        return found.get(i);
    }

    int size(int what) {
        if (what == 7) return tape.length();
        if (!in(what, 0, 7)) return -1;
        if (told == null) return 0;
        return new int[] {told.window, now.size(), told.trades.size(), told.unsure.size(), told.gains.size(), past.size(), images.size()}[what];
    }

    int trouble() { return trouble; }
}
