/** Promises 39 to 42. */
public final class ToldTest {
    private static final Due DUE = new Due("ToldTest");

    public static void main(String[] args) {
        undoOfEachChange();
        undoOnce();
        whatUndoLeaves();
        undoneNumbersComeAnew();
        undoKeepsTheRest();
        findings();
        traces();
        counts();
        DUE.end();
    }

    private static KeyShop shop() {
        KeyShop x = new KeyShop();
        x.blanks(10);
        x.key(1, 4L);
        x.key(1, 5L);
        x.cylinder(2, 1);
        x.cylinder(2, 2);
        x.cabinet(0, 2);
        x.door();
        x.person();
        return x;
    }

    private static void undone(String change, KeyShop x, int answer, int due) {
        DUE.same(change, answer, due);
        DUE.same("undo " + change, x.undo(), 1);
        DUE.same("undo " + change + " again", x.undo(), KeyShop.STATE);
    }

    private static void undoOfEachChange() {
        KeyShop x = shop();
        undone("cylinder", x, x.cylinder(0, 1), 2);
        DUE.same("cylinders", x.told(0), 2);
        undone("twin", x, x.twin(0, 1), 2);
        DUE.same("cylinders", x.told(0), 2);
        undone("height comes", x, x.height(0, 0, 4, true), 1);
        DUE.same("height", x.heightAt(0, 0, 0), -11);
        undone("takeCore", x, x.takeCore(0), 1);
        DUE.same("chambers", x.chambers(0), 1);
        DUE.same("tray", x.told(9), KeyShop.NONE);
        x.takeCore(0);
        undone("putCore", x, x.putCore(0), 1);
        DUE.same("chambers", x.chambers(0), -11);
        DUE.same("tray", x.told(9), 1);
        x.putCore(0);
        undone("blanks", x, x.blanks(5), 13);
        DUE.same("blanks", x.told(5), 8);
        undone("key", x, x.key(1, 1L), 2);
        undone("turned", x, x.turned(0, 1), 2);
        DUE.same("keys", x.told(1), 2);
        DUE.same("blanks", x.told(5), 8);
        undone("cabinet", x, x.cabinet(1, 1), 1);
        DUE.same("cabinets", x.told(2), 1);
        undone("put", x, x.put(0, 1, 0), KeyShop.NONE);
        DUE.same("inside", x.inside(0, 1), KeyShop.NONE);
        undone("door", x, x.door(), 1);
        DUE.same("doors", x.told(3), 1);
        undone("fit", x, x.fit(0, 1), KeyShop.NONE);
        DUE.same("fitted", x.opens(0, 0), -11);
        undone("person", x, x.person(), 1);
        DUE.same("persons", x.told(4), 1);
        undone("lend", x, x.lend(0, 0), 1);
        DUE.same("holder", x.holder(0), KeyShop.NONE);
        x.lend(0, 0);
        undone("bringBack", x, x.bringBack(0), 0);
        DUE.same("holder", x.holder(0), 0);
        undone("lose", x, x.lose(0), 0);
        DUE.same("holder", x.holder(0), 0);
        x.lose(0);
        undone("found", x, x.found(0), 1);
        DUE.same("holder", x.holder(0), -6);
        x.found(0);
        undone("wish", x, x.wish(0, 0, 2), 0);
        DUE.same("wish", x.wish(0, 0, 0), 0);
        x.fit(0, 0);
        undone("work", x, x.work(1, 1, 1, 9), 1);
        DUE.same("cut", x.cut(0, 0), 4);
        x.wish(1, 0, 1);
        x.lose(0);
        undone("anew", x, x.anew(0, 2, 1, 1, 9), 1);
        DUE.same("cut", x.cut(1, 0), 5);
        DUE.same("height", x.heightAt(0, 0, 0), -11);
    }

    private static void undoOnce() {
        KeyShop x = new KeyShop();
        DUE.same("there is none", x.undo(), KeyShop.STATE);
        x.door();
        x.door();
        DUE.same("undo", x.undo(), 1);
        DUE.same("doors", x.told(3), 1);
        DUE.same("it was undone", x.undo(), KeyShop.STATE);
        x.kind(0);
        x.cylinder(9, 9);
        x.cylinder(0, -1);
        DUE.same("no change came", x.undo(), KeyShop.STATE);
        x.blanks(0);
        DUE.same("one that changes nothing", x.undo(), 1);
        DUE.same("doors", x.told(3), 1);
    }

    private static void whatUndoLeaves() {
        KeyShop x = shop();
        x.height(0, 0, 9, true);
        x.turn(0, 0);
        x.cut(0, 5);
        x.undo();
        DUE.same("AT", x.at(), 0);
        DUE.same("TRACE", x.told(8), 2);
        DUE.same("finding", x.finding(), 2);
        DUE.same("findings ever", x.told(7), 1);
        x.key(1, 1L);
        x.undo();
        DUE.same("TRIES", x.told(6), 3);
        x.fit(0, 0);
        x.work(1, 1, 1, 9);
        x.undo();
        DUE.same("TRIALS", x.trials(), 1);
    }

    private static void undoneNumbersComeAnew() {
        KeyShop x = shop();
        x.cylinder(1, 3);
        x.height(2, 0, 1, true);
        x.undo();
        x.cylinder(1, 3);
        x.undo();
        DUE.same("the number", x.cylinder(2, 18), 3);
        for (int chamber = 0; chamber < 18; chamber++) {
            DUE.same("EMPTY " + chamber, x.heightAt(3, chamber, 0), -11);
        }
        KeyShop y = shop();
        y.cylinder(1, 3);
        y.height(2, 2, 7, true);
        y.door();
        y.wish(0, 1, 1);
        y.cabinet(0, 3);
        y.put(1, 2, 0);
        y.undo();
        y.undo();
        DUE.same("inside", y.inside(1, 2), KeyShop.NONE);
        DUE.same("height", y.heightAt(2, 2, 0), 7);
        DUE.same("wish", y.wish(0, 1, 0), 1);
    }

    private static void undoKeepsTheRest() {
        KeyShop x = shop();
        x.cylinder(0, 1);
        x.twin(2, 0);
        x.cabinet(4, 1);
        x.height(2, 0, 4, true);
        x.height(0, 0, 6, true);
        x.undo();
        DUE.same("both halves are there", x.turn(0, 3), 1);
        DUE.same("the first one BARS", x.turn(1, 3), 0);
        DUE.same("at", x.at(), 0);
        DUE.same("the cabinet takes a DOUBLE", x.put(1, 0, 3), KeyShop.NONE);
        DUE.same("and no CORE", x.put(1, 0, 0), -14);
        DUE.same("the other one takes it", x.put(0, 0, 0), KeyShop.NONE);
    }

    private static void findings() {
        KeyShop x = shop();
        DUE.same("NOTHING", x.heightAt(0, 0, 0), -11);
        DUE.same("finding", x.finding(), 1);
        x.door();
        x.length(0);
        x.holder(0);
        x.carry(0);
        x.told(0);
        x.trace(0);
        x.at();
        x.trials();
        x.finding();
        DUE.same("calls that name none leave it", x.finding(), 1);
        x.cylinder(9, 0);
        DUE.same("BAD leaves it", x.finding(), 1);
        x.putCore(0);
        DUE.same("STATE leaves it", x.finding(), 1);
        x.work(6, 6, 1, 1);
        DUE.same("STATE leaves it", x.finding(), 1);
        x.put(0, 0, -1);
        DUE.same("NONE does not", x.finding(), 0);
        x.put(0, 2, 0);
        DUE.same("PLACE", x.finding(), 2);
        x.takeCore(1);
        DUE.same("none", x.finding(), 0);
        x.twin(x.twin(0, 0), 0);
        DUE.same("KIND", x.finding(), 3);
        x.put(0, 0, 2);
        DUE.same("STORE", x.finding(), 4);
        x.cabinet(0, -1);
        DUE.same("SIZE", x.finding(), 5);
        DUE.same("findings ever", x.told(7), 5);
        x.fit(0, 0);
        x.wish(0, 0, 2);
        DUE.same("0 of work", x.work(1, 1, 1, 9), 0);
        DUE.same("none", x.finding(), 0);
        x.key(-1, 0L);
        DUE.same("SIZE of key", x.finding(), 5);
        DUE.same("count", x.count(0, 1, 9), 10);
        DUE.same("none", x.finding(), 0);
    }

    private static void traces() {
        KeyShop x = shop();
        x.weight(0);
        DUE.same("trace(0)", x.trace(0), 6);
        DUE.same("trace(1)", x.trace(1), 5);
        DUE.same("trace(2)", x.trace(2), KeyShop.NONE);
        DUE.same("trace(-1)", x.trace(-1), KeyShop.NONE);
        DUE.same("trace(39)", x.trace(39), KeyShop.NONE);
        DUE.same("trace(least)", x.trace(Integer.MIN_VALUE), KeyShop.NONE);
        x.weight(7);
        DUE.same("BAD leaves it", x.trace(0), 6);
        x.turn(0, 0);
        DUE.same("a turning", x.trace(0), 2);
        x.turnAll(0, 0);
        DUE.same("an empty place", x.told(8), 0);
    }

    private static void counts() {
        KeyShop x = shop();
        x.takeCore(1);
        x.weight(1);
        int[] due = {2, 2, 1, 1, 1, 8, 2, 1, 2, 2};
        for (int what = 0; what < due.length; what++) {
            DUE.same("told " + what, x.told(what), due[what]);
        }
        DUE.same("told -1", x.told(-1), KeyShop.BAD);
        DUE.same("told 10", x.told(10), KeyShop.BAD);
        DUE.same("told greatest", x.told(Integer.MAX_VALUE), KeyShop.BAD);
    }
}
