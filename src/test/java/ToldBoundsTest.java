import java.util.Map;

/** Promises 39 to 42, and what "Terms" says of UNDO and TRACE: the sentences that name a boundary case. */
public final class ToldBoundsTest {
    private static final Due DUE = new Due("ToldBoundsTest");
    private static final int NONE = Bounds.NONE, BAD = Bounds.BAD, STATE = Bounds.STATE, FULL = Bounds.FULL;
    private static final int UNKNOWN = Bounds.UNKNOWN;
    private static final int NOTHING = Bounds.NOTHING, PLACE = Bounds.PLACE, KIND = Bounds.KIND;
    private static final int STORE = Bounds.STORE, SIZE = Bounds.SIZE;
    /** KEY 0 in the shop, KEY 1 lent, KEY 2 LOST; the CORE 1 is OUT; DOOR 0 has the MASTER 0. */
    private static final String SHOP = "blanks(9); key(1, 4); key(1, 5); key(1, 6); cylinder(1, 1); cylinder(2, 1); "
        + "height(0, 0, 4, true); height(1, 0, 3, true); takeCore(1); cabinet(0, 2); put(0, 1, 0); door(); door(); "
        + "fit(0, 0); " + "person(); lend(1, 0); lose(2); wish(0, 0, 1); ";

    public static void main(String[] args) {
        undoOnce();
        undoOfEachChange();
        undoOfChangesThatChangeNothing();
        undoOfSearches();
        undoGoesBackOneChange();
        whatUndoLeaves();
        findingNumbers();
        findingOfCallsThatNameSome();
        findingOfCallsThatNameNone();
        traceOfEachKind();
        traceIsKept();
        traceEntries();
        traceOfTheLatest();
        told();
        toldOfTheTray();
        toldOfFindingsAndTries();
        lastCall();
        DUE.end();
    }

    private static Bounds promise(int number, String sentence, String... shop) {
        return new Bounds(DUE, "promise " + number + ": " + sentence, shop);
    }

    private static void answers(int number, String sentence, String calls, String call, long answer) {
        DUE.same("promise " + number + ": " + sentence + " [" + calls + "] " + call, new Run(calls).ask(call), answer);
    }

    private static void undoOnce() {
        answers(39, "STATE: there is none", "", "undo()", STATE);
        answers(39, "STATE: there is none, behind refused calls", "cylinder(4, 1) = -2; key(1, 1) = -3; "
            + "cylinder(0, -1) = -15", "undo()", STATE);
        answers(39, "STATE: there is none, behind calls that ask", "told(0); at(); trace(0); finding(); trials(); "
            + "carry(0); closed(0)", "undo()", STATE);
        answers(39, "all as ahead of the latest change: 1", "door()", "undo()", 1);
        answers(39, "STATE: it was undone", "door(); undo()", "undo()", STATE);
        answers(39, "STATE: it was undone, though there was one ahead of it", "door(); person(); undo()", "undo()",
            STATE);
        answers(39, "STATE: it was undone, behind refused calls", "door(); undo(); cylinder(4, 1) = -2; "
            + "cylinder(0, -1) = -15", "undo()", STATE);
        answers(39, "once, and once more behind another change", "door(); undo(); door()", "undo()", 1);
        answers(39, "undo() is no change", "door(); door(); undo(); undo() = -3", "told(3)", 1);
    }

    private static void undoOfEachChange() {
        String[] changes = {"cylinder(3, 18)", "twin(0, 1)", "height(0, 0, 9, true)", "height(0, 0, 4, false)",
            "blanks(100)", "key(18, 123456789012345678)", "turned(0, 1)", "cabinet(4, 20)", "put(0, 0, 1)",
            "put(0, 1, NONE)", "door()", "fit(0, 1)", "fit(0, NONE)", "fit(1, 0)", "person()", "lend(0, 0)",
            "bringBack(1)", "lose(0)", "lose(1)", "found(2)", "wish(0, 0, 0)", "wish(2, 1, 2)", "putCore(1)"};
        for (String change : changes) {
            promise(39, "all as ahead of the latest change", SHOP).taken(change, new Run(SHOP).ask(change));
            Map<String, Long> shown = Look.behind(SHOP + change);
            DUE.isTrue("promise 39: " + change + " is seen", !shown.equals(Look.behind(SHOP)));
        }
        promise(39, "(THE TRAY, too)", SHOP, "putCore(1)").taken("takeCore(1)", 1);
        promise(39, "(THE TRAY, too): what lay there", SHOP, "cylinder(2, 2); height(2, 1, 8, true)")
            .taken("takeCore(2)", 2);
    }

    private static void undoOfChangesThatChangeNothing() {
        String[] changes = {"height(0, 0, 4, true)", "height(0, 0, 5, false)", "blanks(0)", "put(0, 1, 0)",
            "put(0, 0, NONE)", "fit(0, 0)", "fit(1, NONE)", "wish(0, 0, 1)", "wish(0, 1, 0)"};
        for (String change : changes) {
            promise(39, "a CHANGE (also if all stays as it was)", SHOP).taken(change, new Run(SHOP).ask(change));
            answers(39, "a CHANGE (also if all stays as it was): the one ahead of it stays", SHOP + "person(); "
                + change + "; undo()", "told(4)", 2);
        }
    }

    private static void undoOfSearches() {
        promise(39, "of work() one that answers 1", SHOP).taken("work(2, 1, 1, 9)", 1);
        promise(39, "of anew() one that answers 1", SHOP).taken("anew(2, 3, 1, 1, 9)", 1);
        promise(39, "of work() one that answers 1: also if all stays as it was", SHOP, "work(2, 1, 1, 9)")
            .taken("work(2, 1, 1, 9)", 1);
        promise(39, "of anew() one that answers 1: also without other KEYS", SHOP, "height(0, 0, 0, true); lose(0); "
            + "height(0, 0, 4, false)")
            .taken("anew(0, 1, 1, 1, 9)", 1);
        promise(39, "no CHANGE: work() that answers 0", SHOP, "fit(0, NONE); cylinder(1, 1); fit(0, 2); wish(0, 0, 2)")
            .asked("work(1, 1, 1, 9)", 0);
        promise(39, "no CHANGE: anew() that answers 0", SHOP, "height(0, 0, 6, true)", "wish(0, 0, 0)")
            .asked("anew(2, 3, 1, 1, 9)", 0);
        promise(39, "no CHANGE: UNKNOWN", "blanks(1); key(0, 0); cylinder(0, 5); door(); fit(0, 0); wish(0, 0, 2)")
            .asked("work(1, 1, 5, 9)", UNKNOWN);
    }

    private static void undoGoesBackOneChange() {
        DUE.isTrue("promise 39: all as ahead of the latest change alone",
            Look.behind(SHOP + "door(); fit(2, 0); undo()").equals(Look.behind(SHOP + "door()")));
        answers(39, "the numbers come anew", SHOP + "cylinder(1, 3); undo()", "cylinder(2, 2)", 2);
        answers(39, "the numbers come anew, EMPTY", SHOP + "cylinder(1, 3); height(2, 1, 5, true); undo(); blanks(0)",
            "heightAt(2, 1, 0)", NOTHING);
        answers(39, "a KEY that comes anew is in the shop", SHOP + "key(1, 1); undo(); key(2, 2)", "holder(3)", NONE);
        answers(39, "a KEY that comes anew has its own CUTS", SHOP + "key(18, 999999999999999999); undo(); key(2, 21)",
            "cut(3, 1)", 2);
        answers(39, "a KEY that comes anew has no more CUTS", SHOP + "key(18, 999999999999999999); undo(); key(2, 21)",
            "cut(3, 2)", PLACE);
        answers(39, "a cabinet that comes anew is empty", SHOP + "cabinet(0, 2); undo(); cabinet(0, 20)",
            "inside(1, 19)", NONE);
    }

    private static void whatUndoLeaves() {
        String met = SHOP + "turn(1, 0); work(1, 1, 1, 9); key(1, 1); cut(0, 1) = -12; ";
        Map<String, Long> ahead = Look.behind(met);
        Map<String, Long> behind = Look.behind(met + "undo()");
        for (String ask : new String[] {"told(6)", "told(7)", "finding()", "at()", "told(8)", "trace(0)", "trace(1)",
            "trials()"}) {
            DUE.same("promise 39: but TRIES, FINDINGS, AT, TRACE, TRIALS: " + ask, behind.get(ask), ahead.get(ask));
        }
        answers(39, "but TRIES", met + "undo()", "told(6)", 4);
        answers(39, "but FINDINGS", met + "undo()", "told(7)", 1);
        answers(39, "but FINDINGS", met + "undo()", "finding()", 2);
        answers(39, "but AT", met + "undo()", "at()", 0);
        answers(39, "but TRACE", met + "undo()", "told(8)", 2);
        answers(39, "but TRIALS", met + "undo()", "trials()", 1);
        answers(39, "TRIES stays, the BLANK comes back", met + "undo()", "told(5)", 6);
        answers(39, "TRIALS stay, the CUTS come back", SHOP + "work(1, 1, 1, 9); undo()", "cut(0, 0)", 4);
    }

    private static void findingNumbers() {
        promise(40, "0 none", SHOP).asked("finding()", 0);
        promise(40, "1 NOTHING: -11", SHOP).refused("heightAt(1, 0, 0)", NOTHING).then("finding()", 1);
        promise(40, "2 PLACE: -12", SHOP).refused("cut(0, 1)", PLACE).then("finding()", 2);
        promise(40, "3 KIND: -13", SHOP, "twin(0, 0)").refused("twin(2, 0)", KIND).then("finding()", 3);
        promise(40, "4 STORE: -14", SHOP, "twin(0, 0)").refused("put(0, 0, 2)", STORE).then("finding()", 4);
        promise(40, "5 SIZE: -15", SHOP).refused("cabinet(0, -1)", SIZE).then("finding()", 5);
        promise(40, "of the latest", SHOP, "cabinet(0, -1) = -15; cut(0, 1) = -12").asked("finding()", 2);
        promise(40, "undo() leaves it", SHOP, "cabinet(0, -1) = -15; undo(); blanks(0)").asked("finding()", 5);
    }

    /** Each of these is made behind a FINDING, too: that is part of taken(), asked() and refused(). */
    private static void findingOfCallsThatNameSome() {
        promise(40, "a call that could meet one, and did not", SHOP, "cut(0, 1) = -12; blanks(0)")
            .taken("cylinder(0, 0)", 2).then("finding()", 0).taken("twin(0, 0)", 2).then("finding()", 0)
            .taken("height(0, 0, 4, true)", 1).then("finding()", 0).asked("heightAt(0, 0, 0)", 4).then("finding()", 0)
            .taken("putCore(1)", 1).then("finding()", 0).asked("chambers(0)", 1).then("finding()", 0)
            .asked("weight(0)", 14).then("finding()", 0).taken("key(0, 0)", 3).then("finding()", 0)
            .taken("turned(0, 1)", 3).then("finding()", 0).asked("cut(0, 0)", 4).then("finding()", 0)
            .asked("turn(0, 0)", 1).then("finding()", 0).asked("turn(1, 0)", 0).then("finding()", 0)
            .asked("opens(0, 0)", 1).then("finding()", 0).taken("cabinet(0, 0)", 1).then("finding()", 0)
            .taken("put(0, 0, NONE)", NONE).then("finding()", 0).asked("inside(0, 0)", NONE).then("finding()", 0)
            .taken("work(1, 1, 1, 9)", 1).then("finding()", 0).taken("anew(2, 3, 1, 1, 9)", 1).then("finding()", 0)
            .asked("count(0, 1, 9)", 1).then("finding()", 0);
        promise(40, "takeCore() could meet one", SHOP, "putCore(1); cut(0, 1) = -12")
            .taken("takeCore(1)", 1).then("finding()", 0);
        promise(40, "turnAll() could meet one", SHOP, "put(0, 0, 0); cut(0, 1) = -12")
            .asked("turnAll(0, 0)", 2).then("finding()", 0);
        promise(40, "and did not answer BAD, STATE, FULL", SHOP, "cut(0, 1) = -12; blanks(0)")
            .refused("cylinder(4, 0)", BAD).then("finding()", 2)
            .refused("height(0, 0, 10, true)", BAD).then("finding()", 2)
            .refused("put(0, 0, 9)", BAD).then("finding()", 2).refused("work(4, 1, 1, 9)", STATE).then("finding()", 2)
            .refused("anew(0, 3, 1, 1, 9)", STATE).then("finding()", 2)
            .refused("count(0, 19, 1)", BAD).then("finding()", 2).refused("turn(3, 0)", BAD).then("finding()", 2);
        promise(40, "and did not answer FULL", "cylinder(3, 1); height(0, 1, 0, true) = -12; blanks(0)")
            .refused("height(0, 0, 0, true)", FULL).then("finding()", 2);
        promise(40, "and did not answer STATE", "cylinder(2, 1); height(0, 1, 0, true) = -12; blanks(0)")
            .refused("putCore(0)", STATE).then("finding()", 2).refused("key(1, 1)", STATE).then("finding()", 2);
        promise(40, "0 and UNKNOWN of work() are no refusals", "blanks(1); key(0, 0); cylinder(0, 5); door(); "
            + "fit(0, 0); wish(0, 0, 2); cut(0, 1) = -12")
            .asked("work(1, 1, 5, 0)", 0).then("finding()", 0).asked("work(1, 1, 5, 9)", UNKNOWN).then("finding()", 0);
    }

    private static void findingOfCallsThatNameNone() {
        promise(40, "a call that names none leaves it", SHOP, "cut(0, 1) = -12; blanks(0)")
            .asked("kind(0)", 1).then("finding()", 2).taken("blanks(1)", 7).then("finding()", 2)
            .asked("length(0)", 1).then("finding()", 2).asked("at()", NONE).then("finding()", 2)
            .taken("door()", 2).then("finding()", 2).taken("fit(0, NONE)", 0).then("finding()", 2)
            .taken("person()", 1).then("finding()", 2).taken("lend(0, 0)", 2).then("finding()", 2)
            .taken("bringBack(1)", 0).then("finding()", 2).taken("lose(0)", NONE).then("finding()", 2)
            .taken("found(2)", 1).then("finding()", 2).asked("holder(2)", -6).then("finding()", 2)
            .taken("wish(0, 0, 2)", 1).then("finding()", 2).asked("trials()", 0).then("finding()", 2)
            .asked("carry(3)", 1).then("finding()", 2).asked("closed(3)", 2).then("finding()", 2)
            .asked("endangered(1)", 0).then("finding()", 2).asked("finding()", 2)
            .asked("trace(0)", NONE).then("finding()", 2).asked("told(0)", 2).then("finding()", 2);
    }

    private static void traces(String sentence, String calls, String call, int... due) {
        Run run = new Run(SHOP + calls);
        run.ask(call);
        DUE.same("promise 41: " + sentence + ": " + call + ", then told(8)", run.ask("told(8)"), due.length);
        for (int i = 0; i < due.length; i++) {
            DUE.same("promise 41: " + sentence + ": " + call + ", then trace(" + i + ")", run.ask("trace(" + i + ")"),
                due[i]);
        }
        DUE.same("promise 41: " + sentence + ": " + call + ", then trace behind", run.ask("trace(" + due.length + ")"),
            NONE);
    }

    /** CYLINDER 2 is a PLAIN, 3 a BLIND; DOUBLES: 4 of 2 and 0, 5 of 1 (OUT) and 2, 6 of none, 7 of 2 and 1,
        8 of 2 and none. */
    private static void traceOfEachKind() {
        String more = "cylinder(0, 0); cylinder(3, 0); twin(2, 0); twin(1, 2); twin(NONE, NONE); twin(2, 1); "
            + "twin(2, NONE); ";
        traces("1 a PLAIN's turning", more, "turn(0, 2)", 1);
        traces("2 a MASTER's (behind it a PLAIN's)", more, "turn(0, 0)", 2, 1);
        traces("2 a MASTER's, that BARS", more, "turn(1, 0)", 2, 1);
        traces("3 a BLIND's", more, "turn(0, 3)", 3);
        traces("4 a DOUBLE's", more, "turn(0, 4)", 4, 1, 2, 1);
        traces("5 a PLAIN's weight", more, "weight(2)", 5);
        traces("5, of a MASTER", more, "weight(0)", 5);
        traces("5, of a BLIND", more, "weight(3)", 5);
        traces("6 a CORE's (behind it a PLAIN's)", more + "putCore(1);", "weight(1)", 6, 5);
        traces("7 a DOUBLE's (behind it those of its halves)", more, "weight(4)", 7, 5, 5);
        traces("7 a DOUBLE's of none", more, "weight(6)", 7);
        traces("a CORE's turning is that of a MASTER", more + "putCore(1);", "turn(0, 1)", 2, 1);
        traces("of a CORE that is OUT 2, 1", more, "turn(0, 1)", 2, 1);
        traces("of a CORE that is OUT 6, 5", more, "weight(1)", 6, 5);
        traces("what begins is told also if it meets a FINDING then", more, "turn(0, 5)", 4, 2, 1);
        traces("what begins is told also if it meets a FINDING then", more, "turn(0, 7)", 4, 1, 2, 1);
        traces("what begins is told also if it meets a FINDING then", more, "turn(0, 8)", 4, 1);
        traces("what begins is told also if it meets a FINDING then", more, "turn(0, 6)", 4);
        traces("what begins is told also if it meets a FINDING then", more, "weight(5)", 7, 6, 5);
        traces("what begins is told also if it meets a FINDING then", more, "weight(7)", 7, 5, 6, 5);
        traces("nothing begins without a CYLINDER", more, "opens(0, 1)");
        traces("nothing begins at an empty place", more, "turnAll(0, 0)");
    }

    private static void traceIsKept() {
        String twenty = "blanks(1); key(0, 0); cylinder(1, 0); cylinder(0, 0); cabinet(0, 20); " + Run.times(20,
            "put(0, #, 0)");
        promise(41, "the first 40 are kept: 40", twenty, "turnAll(0, 0)")
            .asked("trace(0)", 2).asked("trace(38)", 2).asked("trace(39)", 1).asked("trace(40)", NONE)
            .asked("told(8)", 40);
        promise(41, "the first 40 are kept: 39", twenty, "put(0, 19, 1); turnAll(0, 0)")
            .asked("trace(38)", 1).asked("trace(39)", NONE).asked("told(8)", 39);
        String doubles = "blanks(1); key(0, 0); cylinder(0, 0); twin(0, 0); cabinet(4, 14); " + Run.times(14,
            "put(0, #, 1)") + "turnAll(0, 0)";
        promise(41, "the first 40 are kept: of 42", doubles)
            .asked("trace(36)", 4).asked("trace(39)", 4).asked("trace(40)", NONE).asked("trace(41)", NONE)
            .asked("told(8)", 42);
        String most = "blanks(1); key(0, 0); cylinder(2, 0); twin(0, 0); cabinet(4, 20); " + Run.times(20,
            "put(0, #, 1)") + "turnAll(0, 0)";
        promise(41, "the first 40 are kept: of 100", most)
            .asked("trace(35)", 4).asked("trace(39)", 1).asked("trace(40)", NONE).asked("trace(99)", NONE)
            .asked("told(8)", 100);
        promise(41, "a shorter one behind a longer one", most, "turn(0, 0)")
            .asked("trace(0)", 2).asked("trace(1)", 1).asked("trace(2)", NONE).asked("trace(39)", NONE)
            .asked("told(8)", 2);
    }

    private static void traceEntries() {
        promise(41, "entry i (0 to 39); NONE", SHOP, "turn(0, 0)")
            .asked("trace(0)", 2).asked("trace(1)", 1).asked("trace(2)", NONE).asked("trace(39)", NONE)
            .asked("trace(40)", NONE).asked("trace(-1)", NONE).asked("trace(LEAST)", NONE)
            .asked("trace(GREATEST)", NONE);
        promise(41, "NONE at first", "person()").asked("trace(0)", NONE).asked("trace(39)", NONE);
    }

    private static void traceOfTheLatest() {
        promise(41, "a call that is BAD leaves it", SHOP, "turn(0, 0)")
            .refused("turn(3, 0)", BAD).then("told(8)", 2).refused("turn(0, 2)", BAD).then("trace(0)", 2)
            .refused("opens(0, 2)", BAD).then("told(8)", 2).refused("turnAll(1, 0)", BAD).then("told(8)", 2)
            .refused("weight(2)", BAD).then("told(8)", 2).refused("weight(-1)", BAD).then("trace(1)", 1);
        promise(41, "in the latest turn(), opens(), turnAll(), weight()", SHOP, "turn(0, 0)")
            .asked("weight(0)", 14).then("told(8)", 1).then("trace(0)", 5)
            .refused("opens(0, 1)", NOTHING).then("told(8)", 0).refused("turnAll(0, 0)", NOTHING).then("told(8)", 0)
            .refused("weight(1)", NOTHING).then("trace(0)", 6);
        promise(41, "other calls leave it", SHOP, "turn(0, 0)")
            .asked("count(0, 1, 9)", 1).then("told(8)", 2).asked("carry(1)", 1).then("told(8)", 2)
            .asked("closed(1)", 0).then("trace(0)", 2).asked("endangered(1)", 0).then("told(8)", 2)
            .taken("work(1, 1, 1, 9)", 1).then("told(8)", 2).taken("anew(2, 3, 1, 1, 9)", 1).then("told(8)", 2);
    }

    private static void told() {
        int[] due = {2, 3, 1, 2, 1, 6, 3, 0, 0, 1};
        for (int what = 0; what <= 9; what++) {
            promise(42, "how many: " + what, SHOP).asked("told(" + what + ")", due[what]);
        }
        promise(42, "BAD", SHOP)
            .refused("told(-1)", BAD).refused("told(10)", BAD).refused("told(LEAST)", BAD)
            .refused("told(GREATEST)", BAD);
        promise(42, "how many: all that there can be", "blanks(100); " + Run.times(100, "cylinder(0, 0)")
            + Run.times(100, "key(0, 0)") + Run.times(12, "cabinet(0, 0)") + Run.times(40, "door(); person()")
            + Run.times(10, "blanks(100)"))
            .asked("told(0)", 100).asked("told(1)", 100).asked("told(2)", 12).asked("told(3)", 40).asked("told(4)", 40)
            .asked("told(5)", 1000).asked("told(6)", 100);
    }

    private static void toldOfTheTray() {
        promise(42, "9 CHAMBERS on THE TRAY (NONE: it is empty)", "cylinder(2, 0); cylinder(2, 18)")
            .asked("told(9)", NONE);
        promise(42, "9 CHAMBERS on THE TRAY: a row without CHAMBERS", "cylinder(2, 0); takeCore(0)")
            .asked("told(9)", 0);
        promise(42, "9 CHAMBERS on THE TRAY: the most", "cylinder(2, 18); takeCore(0)").asked("told(9)", 18);
        promise(42, "9 CHAMBERS on THE TRAY: it is empty again", "cylinder(2, 18); takeCore(0); putCore(0)")
            .asked("told(9)", NONE);
    }

    private static void toldOfFindingsAndTries() {
        promise(42, "7 FINDINGS ever: each call that meets one", SHOP, Run.times(200, "cut(0, 1) = -12")
            + "cabinet(0, -1) = -15")
            .asked("told(7)", 201);
        promise(42, "7 FINDINGS ever: no refusals", SHOP, "cut(9, 1) = -2; lend(1, 0) = -3; "
            + "height(0, 0, 10, true) = -2")
            .asked("told(7)", 0);
        promise(42, "7 FINDINGS ever: undo() leaves it", SHOP, "cut(0, 1) = -12; undo(); blanks(0)")
            .asked("told(7)", 1);
        promise(42, "6 TRIES: no refusals", SHOP, "key(19, 1) = -2; turned(9, 1) = -2; turned(0, 19) = -2")
            .asked("told(6)", 3);
        promise(42, "6 TRIES: with FINDINGS", SHOP, "key(-1, 1) = -15; turned(0, 2) = -12; turned(0, -1) = -15")
            .asked("told(6)", 6).asked("told(5)", 6);
        promise(42, "6 TRIES: undo() leaves it", SHOP, "key(1, 1); undo(); blanks(0)")
            .asked("told(6)", 4).asked("told(5)", 6).asked("told(1)", 3);
    }

    private static void lastCall() {
        String calls = "blanks(1); " + Run.times(509, "told(0)") + "key(2, 98)";
        answers(42, "an object is used for 512 calls: the last", calls, "told(1)", 1);
        answers(14, "an object is used for 512 calls: the last", calls, "cut(0, 1)", 9);
        answers(39, "an object is used for 512 calls: the last", calls, "undo()", 1);
    }
}
