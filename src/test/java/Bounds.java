import java.util.HashMap;
import java.util.LinkedHashMap;
import java.util.LinkedHashSet;
import java.util.Map;
import java.util.Objects;
import java.util.Set;

/**
 * One sentence of the document that names a boundary case, a shop, and calls on that shop: each call is made on
 * a new one. Besides its answer it is asked what all calls show behind it, and behind undo().
 */
final class Bounds {
    static final int NONE = KeyShop.NONE, BAD = KeyShop.BAD, STATE = KeyShop.STATE, FULL = KeyShop.FULL;
    static final int UNKNOWN = KeyShop.UNKNOWN, LOST = -6;
    static final int NOTHING = -11, PLACE = -12, KIND = -13, STORE = -14, SIZE = -15;

    private static final Set<String> NAME_FINDINGS = Set.of("cylinder", "twin", "height", "heightAt", "takeCore",
        "putCore", "chambers", "weight", "key", "turned", "cut", "turn", "opens", "turnAll", "cabinet", "put",
        "inside", "work", "anew", "count");
    private static final Set<String> TRACED = Set.of("turn", "opens", "turnAll", "weight");
    private static final Map<String, Map<String, Long>> LOOKS = new HashMap<>();

    private final Due due;
    private final String sentence;
    private final String shop;
    private String latest = "";

    Bounds(Due due, String sentence, String... calls) {
        this.due = due;
        this.sentence = sentence;
        this.shop = String.join(";", calls);
    }

    /** A CHANGE: undo() brings back all that was, once. */
    Bounds taken(String call, long answer) {
        latest = call;
        Run run = new Run(shop);
        same(call, run.ask(call), answer);
        same(call + ", then undo()", run.ask("undo()"), 1);
        same(call + ", then undo() twice", run.ask("undo()"), STATE);
        sameLook("; undo()", lookBehind(shop), call, answer);
        findingsBehind(call, answer);
        return this;
    }

    /** A call that answers, and changes nothing. */
    Bounds asked(String call, long answer) {
        due.isTrue(sentence + ": " + answer + " is no refusal", !isRefusal(answer) && !isFinding(answer));
        return leaves(call, answer);
    }

    /** A call that is refused, or meets a FINDING. */
    Bounds refused(String call, long answer) {
        due.isTrue(sentence + ": " + answer + " is a refusal", isRefusal(answer) || isFinding(answer));
        return leaves(call, answer);
    }

    /** What another call answers behind the latest one. */
    Bounds then(String call, long answer) {
        Run run = new Run(shop);
        run.ask(latest);
        same(latest + ", then " + call, run.ask(call), answer);
        return this;
    }

    private Bounds leaves(String call, long answer) {
        latest = call;
        Run run = new Run(shop);
        same(call, run.ask(call), answer);
        same(call + " once more", run.ask(call), answer);
        sameLook("", lookBehind(shop), call, answer);
        undoBehind(call, answer);
        findingsBehind(call, answer);
        return this;
    }

    /** It is no CHANGE: undo() goes back to ahead of the one that was, and there is none if that was undone. */
    private void undoBehind(String call, long answer) {
        Run run = new Run(shop);
        run.ask(call);
        same(call + ", then undo()", run.ask("undo()"), shop.isBlank() ? STATE : 1);
        sameLook(shop.isBlank() ? "" : "; undo()", lookBehind(shop.isBlank() ? "" : shop + "; undo()"), call, answer);
        Run undone = new Run(shop + "; blanks(0); undo()");
        same("behind an undo(): " + call, undone.ask(call), answer);
        same("behind an undo(): " + call + ", then undo()", undone.ask("undo()"), STATE);
    }

    /** Promise 40, for a call ahead of which a FINDING was met. */
    private void findingsBehind(String call, long answer) {
        if (call.equals("finding()") || call.equals("told(7)")) {
            return;
        }
        Run run = new Run(shop);
        boolean cabinetsAreFull = run.ask("told(2)") == 12;
        String meeting = cabinetsAreFull ? "inside(0, 20)" : "cabinet(0, -1)";
        long met = run.ask(meeting);
        same("a FINDING ahead of it: " + meeting, met, cabinetsAreFull ? PLACE : SIZE);
        long ever = run.ask("told(7)");
        same("behind a FINDING: " + call, run.ask(call), answer);
        String behind = "behind a FINDING: " + call + ", then ";
        same(behind + "finding()", run.ask("finding()"), findingDue(call, answer, -10 - met));
        same(behind + "told(7)", run.ask("told(7)"), isFinding(answer) ? ever + 1 : ever);
    }

    private static long findingDue(String call, long answer, long before) {
        if (isFinding(answer)) {
            return -10 - answer;
        }
        return isRefusal(answer) || !NAME_FINDINGS.contains(nameOf(call)) ? before : 0;
    }

    /** What is shown behind the call, and behind what follows it, is what was shown ahead, but for what is told. */
    private void sameLook(String following, Map<String, Long> before, String call, long answer) {
        // a call of a Run that is refused would be an error, but for the answer behind it
        String answered = call + " = " + new Run(shop).ask(call);
        Map<String, Long> look = new LinkedHashMap<>(Look.behind(shop + ";" + answered + following));
        Map<String, Long> want = new LinkedHashMap<>(before);
        want.put("finding()", findingDue(call, answer, before.get("finding()")));
        want.merge("told(7)", isFinding(answer) ? 1L : 0L, Long::sum);
        want.merge("told(6)", takesBlank(call, answer) ? 1L : 0L, Long::sum);
        look.keySet().removeIf(ask -> isTestedApart(ask, call, answer));
        want.keySet().removeIf(ask -> isTestedApart(ask, call, answer));
        due.isTrue(told(call + following + ": what is shown is as it was"), look.equals(want));
        if (!look.equals(want)) {
            tellDifferences(look, want);
        }
    }

    private static void tellDifferences(Map<String, Long> look, Map<String, Long> want) {
        Set<String> asks = new LinkedHashSet<>(want.keySet());
        asks.addAll(look.keySet());
        for (String ask : asks) {
            Long got = look.get(ask);
            Long wanted = want.get(ask);
            if (!Objects.equals(got, wanted)) {
                System.out.println("    " + ask + " answered " + got + ", due is " + wanted);
            }
        }
    }

    /** AT, TRACE and TRIALS are what these calls are for: their tests tell them by then(). */
    private static boolean isTestedApart(String ask, String call, long answer) {
        String name = nameOf(call);
        if (answer == BAD) {
            return false;
        }
        if (ask.startsWith("trace") || ask.equals("told(8)")) {
            return TRACED.contains(name);
        }
        if (ask.equals("at()")) {
            return TRACED.contains(name) && !name.equals("weight");
        }
        return ask.equals("trials()") && (name.equals("work") || name.equals("anew")) && isSearched(answer);
    }

    private static boolean isSearched(long answer) {
        return answer == 0 || answer == 1 || answer == UNKNOWN;
    }

    private static boolean takesBlank(String call, long answer) {
        String name = nameOf(call);
        return (name.equals("key") || name.equals("turned")) && !isRefusal(answer);
    }

    private static Map<String, Long> lookBehind(String made) {
        return LOOKS.computeIfAbsent(made, Look::behind);
    }

    private static String nameOf(String call) {
        return call.substring(0, call.indexOf('('));
    }

    private static boolean isRefusal(long answer) {
        return answer == BAD || answer == STATE || answer == FULL;
    }

    private static boolean isFinding(long answer) {
        return answer <= NOTHING && answer >= SIZE;
    }

    private void same(String call, long got, long want) {
        due.same(told(call), got, want);
    }

    private String told(String call) {
        String calls = shop.length() > 160 ? shop.substring(0, 160) + " .." : shop;
        return sentence + " [" + calls + "] " + call;
    }
}
