import java.util.ArrayList;
import java.util.List;
import java.util.Map;
import java.util.TreeMap;

/** Tests that bear the sentence of the document that they belong to, and the place where it stands there. */
final class Sentences {
    private final Map<String, Integer> tests = new TreeMap<>();
    private final List<String> wrong = new ArrayList<>();
    private String sentence = "";
    private int asked;

    void test(String place, String words, Runnable calls) {
        tests.merge(place, 1, Integer::sum);
        sentence = place + ", \"" + words + "\"";
        int before = asked;
        calls.run();
        if (asked == before) {
            wrong.add(sentence + ": nothing was asked");
        }
    }

    void due(String what, long got, long want) {
        asked++;
        if (got != want) {
            wrong.add(sentence + ": " + what + " answered " + got + ", due is " + want);
        }
    }

    void due(String what, boolean got, boolean want) {
        due(what, got ? 1 : 0, want ? 1 : 0);
    }

    /** An answer together with the TROUBLE behind it. */
    void due(String what, long got, long want, LotLedger x, int trouble) {
        due(what, got, want);
        due(what + ", trouble()", x.trouble(), trouble);
    }

    void due(String what, boolean got, boolean want, LotLedger x, int trouble) {
        due(what, got ? 1 : 0, want ? 1 : 0, x, trouble);
    }

    /** A text that is refused: with which FAULT, and where. */
    void fault(String text, int number, int place) {
        LotLedger x = new LotLedger();
        due("'" + text + "'", Check.read(x, text), LotLedger.NONE, x, 4);
        due("'" + text + "' fault()", x.fault(), number);
        due("'" + text + "' where()", x.where(), place);
    }

    void good(String text, int trades) {
        LotLedger x = new LotLedger();
        due("'" + text + "'", Check.read(x, text), trades, x, 0);
        due("'" + text + "' fault()", x.fault(), 0);
        due("'" + text + "' where()", x.where(), LotLedger.NONE);
    }

    /** All places of the document must have been named. */
    void end() {
        for (int promise = 1; promise <= 50; promise++) {
            lookFor("Promise " + promise);
        }
        for (String part : new String[] {"I", "II", "III", "IV"}) {
            lookFor("Terms " + part);
        }
        wrong.forEach(System.out::println);
        int all = tests.values().stream().mapToInt(n -> n).sum();
        System.out.println(wrong.isEmpty() ? all + " sentences hold, by " + asked + " answers" : wrong.size() + " answers are not as due");
        if (!wrong.isEmpty()) {
            System.exit(1);
        }
    }

    private void lookFor(String place) {
        if (!tests.containsKey(place)) {
            wrong.add(place + " has no test");
        }
    }
}
