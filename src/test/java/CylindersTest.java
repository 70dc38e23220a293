/** Promises 1 to 10. */
public final class CylindersTest {
    private static final Due DUE = new Due("CylindersTest");
    private static final int NOTHING = -11, PLACE = -12, KIND = -13, SIZE = -15;

    public static void main(String[] args) {
        newObject();
        cylinderNumbers();
        cylinderRefusals();
        twins();
        twinRefusals();
        heightsOfPlain();
        heightsOfMasterAndCore();
        heightsOfBlind();
        heightRefusals();
        heightAtRises();
        heightAtRefusals();
        coresMove();
        coreRefusals();
        trayIsOverwritten();
        kinds();
        chambers();
        weights();
        weightMeetsNothing();
        DUE.end();
    }

    private static void newObject() {
        KeyShop x = new KeyShop();
        for (int what = 0; what <= 8; what++) {
            DUE.same("new: told(" + what + ")", x.told(what), 0);
        }
        DUE.same("new: told(9)", x.told(9), KeyShop.NONE);
        DUE.same("new: finding", x.finding(), 0);
        DUE.same("new: at", x.at(), KeyShop.NONE);
        DUE.same("new: trials", x.trials(), 0);
        DUE.same("new: trace(0)", x.trace(0), KeyShop.NONE);
        DUE.same("new: undo", x.undo(), KeyShop.STATE);
        DUE.same("new: kind(0)", x.kind(0), KeyShop.BAD);
        DUE.same("new: length(0)", x.length(0), KeyShop.BAD);
    }

    private static void cylinderNumbers() {
        KeyShop x = new KeyShop();
        for (int i = 0; i < 100; i++) {
            DUE.same("cylinder " + i, x.cylinder(i % 4, i % 19), i);
        }
        DUE.same("cylinder 100", x.cylinder(0, 1), KeyShop.FULL);
        DUE.same("FULL ahead of SIZE", x.cylinder(0, -1), KeyShop.FULL);
        DUE.same("BAD ahead of FULL", x.cylinder(0, 19), KeyShop.BAD);
        DUE.same("told(0)", x.told(0), 100);
        for (int i = 0; i < 100; i++) {
            DUE.same("kind " + i, x.kind(i), i % 4);
            DUE.same("chambers " + i, x.chambers(i), i % 19);
        }
    }

    private static void cylinderRefusals() {
        KeyShop x = new KeyShop();
        DUE.same("kind -1", x.cylinder(-1, 1), KeyShop.BAD);
        DUE.same("kind 4", x.cylinder(4, 1), KeyShop.BAD);
        DUE.same("n 19", x.cylinder(0, 19), KeyShop.BAD);
        DUE.same("n greatest", x.cylinder(0, Integer.MAX_VALUE), KeyShop.BAD);
        DUE.same("kind and n", x.cylinder(4, -1), KeyShop.BAD);
        DUE.same("no finding yet", x.finding(), 0);
        DUE.same("n -1", x.cylinder(0, -1), SIZE);
        DUE.same("finding SIZE", x.finding(), 5);
        DUE.same("n least", x.cylinder(3, Integer.MIN_VALUE), SIZE);
        DUE.same("none made", x.told(0), 0);
        DUE.same("no change", x.undo(), KeyShop.STATE);
        DUE.same("n 18", x.cylinder(0, 18), 0);
        DUE.same("finding none", x.finding(), 0);
        DUE.same("n 0", x.cylinder(0, 0), 1);
    }

    private static void twins() {
        KeyShop x = new KeyShop();
        for (int kind = 0; kind < 4; kind++) {
            x.cylinder(kind, 2);
        }
        DUE.same("a PLAIN, a MASTER", x.twin(0, 1), 4);
        DUE.same("a CORE, a BLIND", x.twin(2, 3), 5);
        DUE.same("one twice", x.twin(1, 1), 6);
        DUE.same("only a second", x.twin(-1, 0), 7);
        DUE.same("only a first", x.twin(0, -1), 8);
        DUE.same("neither", x.twin(-1, -1), 9);
        DUE.same("kind", x.kind(9), 4);
    }

    private static void twinRefusals() {
        KeyShop x = new KeyShop();
        x.cylinder(0, 1);
        x.twin(0, 0);
        DUE.same("first is none that there is", x.twin(2, 0), KeyShop.BAD);
        DUE.same("second is none that there is", x.twin(0, 2), KeyShop.BAD);
        DUE.same("below NONE", x.twin(-2, 0), KeyShop.BAD);
        DUE.same("BAD ahead of KIND", x.twin(1, 2), KeyShop.BAD);
        DUE.same("first a DOUBLE", x.twin(1, 0), KIND);
        DUE.same("second a DOUBLE", x.twin(0, 1), KIND);
        DUE.same("finding KIND", x.finding(), 3);
        DUE.same("findings ever", x.told(7), 2);
        for (int i = 2; i < 100; i++) {
            x.cylinder(0, 0);
        }
        DUE.same("FULL", x.twin(0, 0), KeyShop.FULL);
        DUE.same("FULL ahead of KIND", x.twin(1, 0), KeyShop.FULL);
        DUE.same("BAD ahead of FULL", x.twin(100, 0), KeyShop.BAD);
    }

    private static void heightsOfPlain() {
        KeyShop x = new KeyShop();
        x.cylinder(0, 2);
        DUE.same("comes", x.height(0, 1, 9, true), 1);
        DUE.same("comes again", x.height(0, 1, 9, true), 1);
        DUE.same("another one", x.height(0, 1, 0, true), KeyShop.FULL);
        DUE.same("goes that is not there", x.height(0, 1, 0, false), 1);
        DUE.same("the other CHAMBER", x.height(0, 0, 0, true), 1);
        DUE.same("goes", x.height(0, 1, 9, false), 0);
        DUE.same("goes from EMPTY", x.height(0, 1, 9, false), 0);
        DUE.same("comes anew", x.height(0, 1, 3, true), 1);
    }

    private static void heightsOfMasterAndCore() {
        for (int kind = 1; kind <= 2; kind++) {
            KeyShop x = new KeyShop();
            x.cylinder(kind, 18);
            DUE.same("first", x.height(0, 17, 8, true), 1);
            DUE.same("second", x.height(0, 17, 0, true), 2);
            DUE.same("third", x.height(0, 17, 9, true), 3);
            DUE.same("fourth", x.height(0, 17, 4, true), 4);
            DUE.same("fifth", x.height(0, 17, 5, true), KeyShop.FULL);
            DUE.same("one of the four", x.height(0, 17, 9, true), 4);
            DUE.same("FULL leaves FINDING", x.finding(), 0);
            DUE.same("goes", x.height(0, 17, 0, false), 3);
        }
    }

    private static void heightsOfBlind() {
        KeyShop x = new KeyShop();
        x.cylinder(3, 1);
        DUE.same("comes", x.height(0, 0, 0, true), KeyShop.FULL);
        DUE.same("goes", x.height(0, 0, 0, false), 0);
        DUE.same("PLACE ahead of FULL", x.height(0, 1, 0, true), PLACE);
    }

    private static void heightRefusals() {
        KeyShop x = new KeyShop();
        x.cylinder(0, 2);
        x.twin(0, 0);
        x.cylinder(2, 1);
        DUE.same("no CYLINDER", x.height(3, 0, 1, true), KeyShop.BAD);
        DUE.same("CYLINDER -1", x.height(-1, 0, 1, true), KeyShop.BAD);
        DUE.same("HEIGHT 10", x.height(0, 0, 10, true), KeyShop.BAD);
        DUE.same("HEIGHT -1", x.height(0, 0, -1, false), KeyShop.BAD);
        DUE.same("BAD ahead of KIND", x.height(1, 0, 10, true), KeyShop.BAD);
        DUE.same("a DOUBLE", x.height(1, 9, 1, true), KIND);
        DUE.same("CHAMBER 2", x.height(0, 2, 1, true), PLACE);
        DUE.same("CHAMBER -1", x.height(0, -1, 1, true), PLACE);
        x.takeCore(2);
        DUE.same("OUT", x.height(2, 0, 1, true), NOTHING);
        DUE.same("NOTHING ahead of PLACE", x.height(2, 5, 1, false), NOTHING);
        DUE.same("finding", x.finding(), 1);
    }

    private static void heightAtRises() {
        KeyShop x = new KeyShop();
        x.cylinder(1, 3);
        int[] come = {7, 0, 9, 3};
        for (int height : come) {
            x.height(0, 2, height, true);
        }
        int[] rising = {0, 3, 7, 9};
        for (int i = 0; i < 4; i++) {
            DUE.same("heightAt " + i, x.heightAt(0, 2, i), rising[i]);
        }
        x.height(0, 2, 3, false);
        DUE.same("one went", x.heightAt(0, 2, 1), 7);
        DUE.same("no change by a look", x.undo(), 1);
        DUE.same("undone", x.heightAt(0, 2, 1), 3);
    }

    private static void heightAtRefusals() {
        KeyShop x = new KeyShop();
        x.cylinder(1, 2);
        x.twin(0, 0);
        x.cylinder(2, 1);
        x.height(0, 1, 5, true);
        DUE.same("no CYLINDER", x.heightAt(3, 0, 0), KeyShop.BAD);
        DUE.same("a DOUBLE", x.heightAt(1, 0, 0), KIND);
        DUE.same("no CHAMBER", x.heightAt(0, 2, 0), PLACE);
        DUE.same("CHAMBER -1", x.heightAt(0, -1, 0), PLACE);
        DUE.same("EMPTY", x.heightAt(0, 0, 0), NOTHING);
        DUE.same("EMPTY ahead of i", x.heightAt(0, 0, -7), NOTHING);
        DUE.same("i 1", x.heightAt(0, 1, 1), PLACE);
        DUE.same("i -1", x.heightAt(0, 1, -1), PLACE);
        DUE.same("findings ever", x.told(7), 7);
        x.takeCore(2);
        DUE.same("OUT", x.heightAt(2, 9, 0), NOTHING);
    }

    private static void coresMove() {
        KeyShop x = new KeyShop();
        x.cylinder(2, 3);
        x.cylinder(2, 0);
        x.height(0, 1, 4, true);
        DUE.same("take", x.takeCore(0), 3);
        DUE.same("tray", x.told(9), 3);
        DUE.same("OUT has no CHAMBERS", x.chambers(0), NOTHING);
        DUE.same("not OUT", x.putCore(1), KeyShop.STATE);
        DUE.same("put", x.putCore(0), 3);
        DUE.same("tray is empty", x.told(9), KeyShop.NONE);
        DUE.same("the HEIGHT came along", x.heightAt(0, 1, 0), 4);
        DUE.same("take none of CHAMBERS", x.takeCore(1), 0);
        DUE.same("tray has 0", x.told(9), 0);
        DUE.same("take the other", x.takeCore(0), 3);
        DUE.same("put it in the other", x.putCore(1), 3);
        DUE.same("it is there", x.heightAt(1, 1, 0), 4);
        DUE.same("nothing left", x.putCore(0), NOTHING);
        DUE.same("finding", x.finding(), 1);
    }

    private static void coreRefusals() {
        KeyShop x = new KeyShop();
        x.cylinder(0, 1);
        x.cylinder(1, 1);
        x.cylinder(3, 1);
        x.twin(0, 0);
        for (int cylinder = 0; cylinder < 4; cylinder++) {
            DUE.same("take from " + cylinder, x.takeCore(cylinder), KIND);
            DUE.same("put into " + cylinder, x.putCore(cylinder), KIND);
        }
        DUE.same("take from none", x.takeCore(4), KeyShop.BAD);
        DUE.same("take from -1", x.takeCore(-1), KeyShop.BAD);
        DUE.same("put into none", x.putCore(4), KeyShop.BAD);
        x.cylinder(2, 1);
        DUE.same("STATE ahead of NOTHING", x.putCore(4), KeyShop.STATE);
        DUE.same("STATE leaves FINDING", x.finding(), 0);
        x.takeCore(4);
        DUE.same("OUT already", x.takeCore(4), NOTHING);
        DUE.same("the tray stays", x.told(9), 1);
    }

    private static void trayIsOverwritten() {
        KeyShop x = new KeyShop();
        x.cylinder(2, 2);
        x.cylinder(2, 5);
        x.height(0, 0, 1, true);
        x.height(1, 0, 2, true);
        x.takeCore(0);
        x.takeCore(1);
        DUE.same("tray", x.told(9), 5);
        x.undo();
        DUE.same("tray after undo", x.told(9), 2);
        x.putCore(0);
        DUE.same("the first is back", x.heightAt(0, 0, 0), 1);
        DUE.same("the second stayed", x.heightAt(1, 0, 0), 2);
    }

    private static void kinds() {
        KeyShop x = new KeyShop();
        for (int kind = 0; kind < 4; kind++) {
            x.cylinder(kind, 1);
            DUE.same("kind " + kind, x.kind(kind), kind);
        }
        x.twin(-1, -1);
        DUE.same("kind of a DOUBLE", x.kind(4), 4);
        DUE.same("kind of none", x.kind(5), KeyShop.BAD);
        DUE.same("kind of -1", x.kind(-1), KeyShop.BAD);
        x.twin(4, 4);
        x.kind(0);
        DUE.same("kind() names no FINDING", x.finding(), 3);
    }

    private static void chambers() {
        KeyShop x = new KeyShop();
        x.cylinder(3, 18);
        x.twin(0, 0);
        x.cylinder(2, 7);
        DUE.same("a BLIND", x.chambers(0), 18);
        DUE.same("a DOUBLE", x.chambers(1), KIND);
        DUE.same("finding", x.finding(), 3);
        DUE.same("a CORE", x.chambers(2), 7);
        DUE.same("finding is gone", x.finding(), 0);
        DUE.same("none", x.chambers(3), KeyShop.BAD);
        DUE.same("least", x.chambers(Integer.MIN_VALUE), KeyShop.BAD);
    }

    private static void weights() {
        KeyShop x = new KeyShop();
        x.cylinder(0, 2);
        x.cylinder(1, 2);
        x.cylinder(2, 2);
        x.cylinder(3, 2);
        x.height(0, 1, 9, true);
        x.height(1, 0, 1, true);
        x.height(1, 0, 2, true);
        x.height(1, 1, 3, true);
        x.height(2, 0, 7, true);
        x.height(2, 1, 7, true);
        x.twin(2, 0);
        x.twin(-1, 1);
        x.twin(3, -1);
        x.twin(-1, -1);
        x.twin(2, 2);
        weightAndTrace(x, 0, 19, 5);
        weightAndTrace(x, 1, 16, 5);
        weightAndTrace(x, 2, 29, 6, 5);
        weightAndTrace(x, 3, 10, 5);
        weightAndTrace(x, 4, 48, 7, 6, 5, 5);
        weightAndTrace(x, 5, 16, 7, 5);
        weightAndTrace(x, 6, 10, 7, 5);
        weightAndTrace(x, 7, 0, 7);
        weightAndTrace(x, 8, 58, 7, 6, 5, 6, 5);
        DUE.same("none", x.weight(9), KeyShop.BAD);
        DUE.same("BAD leaves the TRACE", x.told(8), 5);
    }

    private static void weightMeetsNothing() {
        KeyShop x = new KeyShop();
        x.cylinder(2, 1);
        x.cylinder(1, 1);
        x.twin(0, 1);
        x.twin(1, 0);
        x.takeCore(0);
        weightAndTrace(x, 0, NOTHING, 6, 5);
        weightAndTrace(x, 2, NOTHING, 7, 6, 5);
        weightAndTrace(x, 3, NOTHING, 7, 5, 6, 5);
        DUE.same("finding", x.finding(), 1);
        DUE.same("findings ever", x.told(7), 3);
        DUE.same("AT stays", x.at(), KeyShop.NONE);
    }

    private static void weightAndTrace(KeyShop x, int cylinder, int weight, int... trace) {
        DUE.same("weight of " + cylinder, x.weight(cylinder), weight);
        DUE.same("entries for " + cylinder, x.told(8), trace.length);
        for (int i = 0; i < trace.length; i++) {
            DUE.same("trace " + i + " for " + cylinder, x.trace(i), trace[i]);
        }
        DUE.same("trace behind for " + cylinder, x.trace(trace.length), KeyShop.NONE);
    }
}
