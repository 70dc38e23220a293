/** Promises 16 to 19, and what 41 tells of them. */
public final class TurningTest {
    private static final Due DUE = new Due("TurningTest");
    private static final int NOTHING = -11, PLACE = -12;

    public static void main(String[] args) {
        turnInRows();
        turnInBlind();
        turnInCoreThatIsOut();
        turnInDouble();
        turnInHalfDouble();
        turnRefusals();
        opensDoors();
        turnAllInCabinet();
        turnAllMeetsFindings();
        longTrace();
        DUE.end();
    }

    private static void turnInRows() {
        KeyShop x = new KeyShop();
        x.blanks(9);
        x.key(3, 321L);
        x.key(1, 1L);
        x.key(0, 0L);
        x.cylinder(0, 3);
        x.cylinder(1, 18);
        x.cylinder(2, 3);
        turned(x, 2, 0, 1, KeyShop.NONE, 1);
        x.height(0, 1, 2, true);
        turned(x, 0, 0, 1, KeyShop.NONE, 1);
        turned(x, 1, 0, PLACE, 1, 1);
        x.height(0, 2, 9, true);
        turned(x, 0, 0, 0, 2, 1);
        x.height(1, 0, 1, true);
        x.height(1, 0, 9, true);
        turned(x, 1, 1, 1, KeyShop.NONE, 2, 1);
        x.height(1, 17, 0, true);
        turned(x, 0, 1, PLACE, 17, 2, 1);
        x.height(1, 0, 1, false);
        turned(x, 0, 1, 0, 0, 2, 1);
        x.height(2, 2, 3, true);
        turned(x, 0, 2, 1, KeyShop.NONE, 2, 1);
    }

    private static void turnInBlind() {
        KeyShop x = new KeyShop();
        x.blanks(1);
        x.key(0, 0L);
        x.cylinder(3, 0);
        x.cylinder(3, 5);
        turned(x, 0, 0, 0, 0, 3);
        turned(x, 0, 1, 0, 0, 3);
    }

    private static void turnInCoreThatIsOut() {
        KeyShop x = new KeyShop();
        x.blanks(1);
        x.key(1, 4L);
        x.cylinder(2, 1);
        x.height(0, 0, 5, true);
        turned(x, 0, 0, 0, 0, 2, 1);
        x.takeCore(0);
        turned(x, 0, 0, NOTHING, KeyShop.NONE, 2, 1);
        DUE.same("finding", x.finding(), 1);
    }

    private static void turnInDouble() {
        KeyShop x = new KeyShop();
        x.blanks(2);
        x.key(3, 444L);
        x.key(1, 4L);
        x.cylinder(0, 3);
        x.cylinder(1, 3);
        x.cylinder(3, 3);
        x.cylinder(2, 3);
        x.height(0, 0, 4, true);
        x.height(1, 2, 4, true);
        x.twin(0, 1);
        x.twin(0, 2);
        x.twin(2, 0);
        x.twin(1, 0);
        x.twin(0, 3);
        turned(x, 0, 4, 1, KeyShop.NONE, 4, 1, 2, 1);
        turned(x, 1, 4, PLACE, 20, 4, 1, 2, 1);
        turned(x, 0, 5, 0, 18, 4, 1, 3);
        turned(x, 0, 6, 0, 0, 4, 3);
        turned(x, 1, 7, PLACE, 2, 4, 2, 1);
        x.height(1, 1, 5, true);
        turned(x, 0, 4, 0, 19, 4, 1, 2, 1);
        x.takeCore(3);
        turned(x, 0, 8, NOTHING, KeyShop.NONE, 4, 1, 2, 1);
    }

    private static void turnInHalfDouble() {
        KeyShop x = new KeyShop();
        x.blanks(1);
        x.key(1, 4L);
        x.cylinder(0, 1);
        x.cylinder(3, 1);
        x.twin(0, -1);
        x.twin(-1, 0);
        x.twin(1, -1);
        x.twin(-1, -1);
        turned(x, 0, 2, NOTHING, KeyShop.NONE, 4, 1);
        turned(x, 0, 3, NOTHING, KeyShop.NONE, 4);
        turned(x, 0, 4, 0, 0, 4, 3);
        turned(x, 0, 5, NOTHING, KeyShop.NONE, 4);
    }

    private static void turnRefusals() {
        KeyShop x = new KeyShop();
        x.blanks(1);
        x.key(1, 4L);
        x.cylinder(1, 1);
        x.height(0, 0, 3, true);
        turned(x, 0, 0, 0, 0, 2, 1);
        DUE.same("no KEY", x.turn(1, 0), KeyShop.BAD);
        DUE.same("KEY -1", x.turn(-1, 0), KeyShop.BAD);
        DUE.same("no CYLINDER", x.turn(0, 1), KeyShop.BAD);
        DUE.same("CYLINDER NONE", x.turn(0, -1), KeyShop.BAD);
        DUE.same("opens: no DOOR", x.opens(0, 0), KeyShop.BAD);
        DUE.same("turnAll: no cabinet", x.turnAll(0, 0), KeyShop.BAD);
        DUE.same("weight: no CYLINDER", x.weight(1), KeyShop.BAD);
        DUE.same("BAD leaves AT", x.at(), 0);
        DUE.same("BAD leaves the TRACE", x.told(8), 2);
    }

    private static void opensDoors() {
        KeyShop x = new KeyShop();
        x.blanks(2);
        x.key(1, 4L);
        x.key(0, 0L);
        x.cylinder(1, 2);
        x.height(0, 0, 4, true);
        x.door();
        x.door();
        x.fit(1, 0);
        DUE.same("opens", x.opens(0, 1), 1);
        DUE.same("trace", x.trace(0), 2);
        DUE.same("trace", x.trace(1), 1);
        DUE.same("too short", x.opens(1, 1), PLACE);
        DUE.same("at", x.at(), 0);
        DUE.same("no CYLINDER", x.opens(0, 0), NOTHING);
        DUE.same("finding", x.finding(), 1);
        DUE.same("at", x.at(), KeyShop.NONE);
        DUE.same("trace is empty", x.told(8), 0);
        DUE.same("trace(0)", x.trace(0), KeyShop.NONE);
        DUE.same("no DOOR", x.opens(0, 2), KeyShop.BAD);
        DUE.same("no KEY", x.opens(2, 0), KeyShop.BAD);
        x.height(0, 0, 5, true);
        x.height(0, 0, 4, false);
        DUE.same("barred", x.opens(0, 1), 0);
        DUE.same("at", x.at(), 0);
        DUE.same("finding none", x.finding(), 0);
    }

    private static void turnAllInCabinet() {
        KeyShop x = new KeyShop();
        x.blanks(2);
        x.key(2, 44L);
        x.cylinder(0, 1);
        x.cylinder(1, 2);
        x.cylinder(3, 0);
        x.cabinet(0, 0);
        x.cabinet(0, 3);
        x.height(1, 1, 5, true);
        DUE.same("no places", x.turnAll(0, 0), 0);
        DUE.same("at", x.at(), KeyShop.NONE);
        DUE.same("nothing gone through", x.told(8), 0);
        x.put(1, 0, 0);
        x.put(1, 1, 0);
        x.put(1, 2, 1);
        DUE.same("two open", x.turnAll(1, 0), 2);
        DUE.same("at", x.at(), 1);
        traced(x, 1, 1, 2, 1);
        x.height(1, 1, 4, true);
        DUE.same("three open", x.turnAll(1, 0), 3);
        DUE.same("at", x.at(), KeyShop.NONE);
        x.put(1, 0, 2);
        DUE.same("none opens", x.turnAll(1, 0), 0);
        DUE.same("at", x.at(), 0);
        traced(x, 3);
        DUE.same("no KEY", x.turnAll(1, 1), KeyShop.BAD);
        DUE.same("no cabinet", x.turnAll(2, 0), KeyShop.BAD);
        DUE.same("cabinet -1", x.turnAll(-1, 0), KeyShop.BAD);
    }

    private static void turnAllMeetsFindings() {
        KeyShop x = new KeyShop();
        x.blanks(2);
        x.key(1, 4L);
        x.cylinder(2, 1);
        x.cylinder(0, 2);
        x.cabinet(0, 2);
        DUE.same("empty places", x.turnAll(0, 0), NOTHING);
        DUE.same("nothing gone through", x.told(8), 0);
        x.put(0, 0, 1);
        DUE.same("an empty place behind", x.turnAll(0, 0), NOTHING);
        DUE.same("at", x.at(), KeyShop.NONE);
        traced(x, 1);
        x.height(0, 0, 4, true);
        x.height(1, 1, 4, true);
        x.put(0, 0, 0);
        x.put(0, 1, 1);
        DUE.same("PLACE behind", x.turnAll(0, 0), PLACE);
        DUE.same("at", x.at(), 1);
        DUE.same("finding", x.finding(), 2);
        x.takeCore(0);
        DUE.same("OUT ahead", x.turnAll(0, 0), NOTHING);
        DUE.same("at", x.at(), KeyShop.NONE);
        traced(x, 2, 1);
        x.height(1, 0, 5, true);
        x.put(0, 0, 1);
        x.put(0, 1, -1);
        DUE.same("barred ahead of an empty place", x.turnAll(0, 0), 0);
        DUE.same("finding none", x.finding(), 0);
    }

    private static void longTrace() {
        KeyShop x = new KeyShop();
        x.blanks(1);
        x.key(0, 0L);
        x.cylinder(1, 18);
        x.cylinder(0, 1);
        x.twin(0, 1);
        x.cabinet(4, 20);
        for (int place = 0; place < 20; place++) {
            x.put(0, place, 2);
        }
        DUE.same("all open", x.turnAll(0, 0), 20);
        DUE.same("entries, all", x.told(8), 80);
        int[] each = {4, 2, 1, 1};
        for (int i = 0; i < 40; i++) {
            DUE.same("trace " + i, x.trace(i), each[i % 4]);
        }
        DUE.same("trace 40", x.trace(40), KeyShop.NONE);
        DUE.same("trace -1", x.trace(-1), KeyShop.NONE);
        x.turn(0, 1);
        DUE.same("a shorter one", x.told(8), 1);
        DUE.same("what was there is gone", x.trace(1), KeyShop.NONE);
    }

    private static void turned(KeyShop x, int key, int cylinder, int answer, int at, int... trace) {
        String call = "turn(" + key + ", " + cylinder + ")";
        DUE.same(call, x.turn(key, cylinder), answer);
        DUE.same("at behind " + call, x.at(), at);
        traced(x, trace);
    }

    private static void traced(KeyShop x, int... trace) {
        DUE.same("entries", x.told(8), trace.length);
        for (int i = 0; i < trace.length; i++) {
            DUE.same("trace " + i, x.trace(i), trace[i]);
        }
    }
}
