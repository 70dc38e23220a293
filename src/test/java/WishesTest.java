/** Promises 31 to 34. */
public final class WishesTest {
    private static final Due DUE = new Due("WishesTest");
    private static final int NOTHING = -11, KIND = -13;

    public static void main(String[] args) {
        wishes();
        workSizes();
        workStates();
        workDoorByDoor();
        workWithoutWishes();
        workKeepsMost();
        workKeepsStep();
        workMeetsNever();
        workForBlind();
        workCutsLentAndLost();
        workOfOtherLengths();
        workIsUndone();
        workLeavesOtherDoors();
        trialsAtTheLimit();
        anewRefusals();
        anewPassesOver();
        anewTakesNoLostCuts();
        anewOverridesWishes();
        anewAlone();
        DUE.end();
    }

    private static KeyShop shop(int keys, int doors, int kind, int chambers) {
        KeyShop x = new KeyShop();
        x.blanks(20);
        for (int key = 0; key < keys; key++) {
            x.key(chambers, 111111L * (key + 3));
        }
        for (int door = 0; door < doors; door++) {
            x.cylinder(kind, chambers);
            x.door();
            x.fit(door, door);
        }
        return x;
    }

    private static void wishes() {
        KeyShop x = shop(2, 2, 1, 2);
        DUE.same("none at first", x.wish(1, 0, 1), 0);
        DUE.same("OPEN", x.wish(1, 0, 2), 1);
        DUE.same("NEVER", x.wish(1, 0, 2), 2);
        DUE.same("NEVER still", x.wish(1, 0, 0), 2);
        DUE.same("none", x.wish(1, 0, 1), 0);
        DUE.same("of another KEY", x.wish(0, 0, 0), 0);
        DUE.same("of another DOOR", x.wish(1, 1, 0), 0);
        DUE.same("what -1", x.wish(0, 0, -1), KeyShop.BAD);
        DUE.same("what 3", x.wish(0, 0, 3), KeyShop.BAD);
        DUE.same("no KEY", x.wish(2, 0, 1), KeyShop.BAD);
        DUE.same("no DOOR", x.wish(0, 2, 1), KeyShop.BAD);
        DUE.same("KEY -1", x.wish(-1, 0, 1), KeyShop.BAD);
        DUE.same("DOOR -1", x.wish(0, -1, 1), KeyShop.BAD);
        for (int door = 2; door < 40; door++) {
            x.door();
        }
        DUE.same("the last DOOR", x.wish(0, 39, 2), 0);
        DUE.same("one 32 below", x.wish(0, 7, 1), 0);
        DUE.same("the last DOOR again", x.wish(0, 39, 1), 2);
        x.undo();
        DUE.same("undone", x.wish(0, 39, 0), 2);
    }

    private static void workSizes() {
        KeyShop x = shop(6, 6, 1, 5);
        DUE.same("k 0", x.work(0, 1, 5, 9), KeyShop.BAD);
        DUE.same("k 7", x.work(7, 1, 5, 9), KeyShop.BAD);
        DUE.same("d 0", x.work(1, 0, 5, 9), KeyShop.BAD);
        DUE.same("d 7", x.work(1, 7, 5, 9), KeyShop.BAD);
        DUE.same("n 0", x.work(1, 1, 0, 9), KeyShop.BAD);
        DUE.same("n 6", x.work(1, 1, 6, 9), KeyShop.BAD);
        DUE.same("STEP -1", x.work(1, 1, 5, -1), KeyShop.BAD);
        DUE.same("STEP 10", x.work(1, 1, 5, 10), KeyShop.BAD);
        DUE.same("the greatest", x.work(6, 6, 5, 9), 1);
        DUE.same("its TRIALS", x.trials(), 5 + 6 + 7 + 8 + 9 + 10);
    }

    private static void workStates() {
        KeyShop x = shop(2, 2, 1, 2);
        DUE.same("not so many KEYS", x.work(3, 2, 2, 9), KeyShop.STATE);
        DUE.same("not so many DOORS", x.work(2, 3, 2, 9), KeyShop.STATE);
        DUE.same("BAD ahead of STATE", x.work(3, 2, 6, 9), KeyShop.BAD);
        x.fit(0, -1);
        DUE.same("STATE ahead of NOTHING", x.work(3, 2, 2, 9), KeyShop.STATE);
        DUE.same("no TRIALS", x.trials(), 0);
    }

    private static void workDoorByDoor() {
        KeyShop x = shop(1, 3, 2, 2);
        DUE.same("all is there", x.work(1, 3, 2, 9), 1);
        DUE.same("trials", x.trials(), 2);
        DUE.same("not n CHAMBERS", x.work(1, 3, 3, 9), KeyShop.STATE);
        x.twin(0, 1);
        x.fit(1, 3);
        DUE.same("a DOUBLE", x.work(1, 3, 2, 9), KIND);
        DUE.same("finding", x.finding(), 3);
        DUE.same("STATE of the first ahead of it", x.work(1, 3, 3, 9), KeyShop.STATE);
        DUE.same("the first alone", x.work(1, 1, 2, 9), 1);
        x.fit(1, 1);
        x.takeCore(1);
        DUE.same("OUT", x.work(1, 3, 2, 9), NOTHING);
        x.fit(1, 0);
        DUE.same("the CYLINDER of one ahead", x.work(1, 3, 2, 9), KeyShop.STATE);
        x.fit(0, -1);
        DUE.same("no CYLINDER", x.work(1, 3, 2, 9), NOTHING);
        DUE.same("finding", x.finding(), 1);
        DUE.same("trials stay", x.trials(), 2);
    }

    private static void workWithoutWishes() {
        KeyShop x = shop(3, 1, 0, 2);
        x.height(0, 0, 7, true);
        int tries = x.told(6);
        int blanks = x.told(5);
        DUE.same("work", x.work(3, 1, 2, 9), 1);
        sameCuts(x, 0, 0, 0);
        sameCuts(x, 1, 0, 1);
        sameCuts(x, 2, 0, 2);
        DUE.same("trials", x.trials(), 2 + 3 + 4);
        DUE.same("the HEIGHTS stay", x.heightAt(0, 0, 0), 7);
        DUE.same("TRIES stays", x.told(6), tries);
        DUE.same("BLANKS stay", x.told(5), blanks);
    }

    private static void workKeepsMost() {
        KeyShop x = shop(3, 1, 0, 1);
        x.wish(0, 0, 1);
        x.wish(1, 0, 1);
        DUE.same("two KEYS, one HEIGHT", x.work(2, 1, 1, 9), 0);
        DUE.same("trials", x.trials(), 10 + 10 * 10);
        KeyShop y = shop(6, 1, 1, 1);
        for (int key = 0; key < 4; key++) {
            y.wish(key, 0, 1);
        }
        DUE.same("four KEYS, four HEIGHTS", y.work(4, 1, 1, 9), 1);
        for (int i = 0; i < 4; i++) {
            DUE.same("HEIGHT " + i, y.heightAt(0, 0, i), i);
        }
        DUE.same("trials", y.trials(), 1 + 2 + 3 + 4);
        y.wish(4, 0, 1);
        DUE.same("five KEYS", y.work(5, 1, 1, 9), KeyShop.UNKNOWN);
        DUE.same("trials", y.trials(), 4000);
    }

    private static void workKeepsStep() {
        KeyShop x = shop(3, 1, 1, 2);
        DUE.same("STEP 0", x.work(3, 1, 2, 0), 1);
        sameCuts(x, 0, 0, 0);
        sameCuts(x, 1, 1, 1);
        sameCuts(x, 2, 2, 2);
        DUE.same("trials", x.trials(), 2 + (1 + 10 + 1 + 2) + (1 + 10 + 1 + 10 + 1 + 3));
        DUE.same("STEP 1", x.work(3, 1, 2, 1), 1);
        sameCuts(x, 1, 0, 1);
        sameCuts(x, 2, 1, 0);
    }

    private static void workMeetsNever() {
        KeyShop x = shop(2, 2, 0, 1);
        x.wish(0, 0, 1);
        x.wish(1, 0, 2);
        x.height(1, 0, 1, true);
        x.wish(1, 1, 2);
        DUE.same("work", x.work(2, 2, 1, 9), 1);
        sameCuts(x, 0, 0);
        sameCuts(x, 1, 2);
        DUE.same("it opens", x.opens(0, 0), 1);
        DUE.same("it never does", x.opens(1, 0), 0);
        DUE.same("nor the one that stayed", x.opens(1, 1), 0);
        x.height(1, 0, 1, false);
        DUE.same("EMPTY never BARS", x.work(2, 2, 1, 9), 0);
        DUE.same("trials", x.trials(), 10 + 100);
        sameCuts(x, 1, 2);
    }

    private static void workForBlind() {
        KeyShop x = shop(2, 1, 3, 2);
        x.wish(0, 0, 2);
        DUE.same("NEVER a BLIND", x.work(1, 1, 2, 9), 1);
        DUE.same("trials", x.trials(), 2);
        x.wish(0, 0, 1);
        DUE.same("OPEN a BLIND", x.work(1, 1, 2, 9), 0);
        DUE.same("trials", x.trials(), 10);
        x.wish(0, 0, 0);
        x.wish(1, 0, 1);
        DUE.same("the second KEY's", x.work(2, 1, 2, 9), 0);
        DUE.same("trials", x.trials(), 10 + 100 + 100 * 10);
    }

    private static void workCutsLentAndLost() {
        KeyShop x = shop(2, 1, 1, 1);
        x.person();
        x.lend(0, 0);
        x.lose(1);
        x.wish(0, 0, 1);
        x.wish(1, 0, 1);
        DUE.same("work", x.work(2, 1, 1, 9), 1);
        sameCuts(x, 0, 0);
        sameCuts(x, 1, 1);
        DUE.same("lent still", x.holder(0), 0);
        DUE.same("LOST still", x.holder(1), -6);
        DUE.same("HEIGHT 0", x.heightAt(0, 0, 0), 0);
        DUE.same("HEIGHT 1", x.heightAt(0, 0, 1), 1);
        DUE.same("no third one", x.heightAt(0, 0, 2), -12);
    }

    private static void workOfOtherLengths() {
        KeyShop x = shop(0, 1, 1, 3);
        x.key(18, 999999999999999999L);
        x.key(0, 0L);
        x.key(1, 5L);
        DUE.same("work", x.work(2, 1, 3, 9), 1);
        sameCuts(x, 0, 0, 0, 0);
        sameCuts(x, 1, 0, 0, 1);
        sameCuts(x, 2, 5);
        x.undo();
        DUE.same("long again", x.length(0), 18);
        DUE.same("its last CUT", x.cut(0, 17), 9);
        DUE.same("short again", x.length(1), 0);
    }

    private static void workIsUndone() {
        KeyShop x = shop(2, 2, 1, 2);
        x.height(0, 1, 6, true);
        x.wish(0, 0, 1);
        x.wish(1, 0, 1);
        DUE.same("work", x.work(2, 2, 2, 9), 1);
        DUE.same("HEIGHT", x.heightAt(0, 1, 1), 1);
        int trials = x.trials();
        DUE.same("undo", x.undo(), 1);
        sameCuts(x, 0, 3, 3);
        sameCuts(x, 1, 4, 4);
        DUE.same("the CHAMBER is EMPTY again", x.heightAt(0, 0, 0), NOTHING);
        DUE.same("HEIGHT again", x.heightAt(0, 1, 0), 6);
        DUE.same("TRIALS stay", x.trials(), trials);
        DUE.same("undo once", x.undo(), KeyShop.STATE);
        x.wish(0, 1, 0);
        x.work(9, 9, 9, 9);
        x.fit(1, 0);
        x.work(2, 2, 2, 9);
        DUE.same("what is refused is no change", x.undo(), 1);
        DUE.same("fit was undone", x.fit(1, -1), 1);
    }

    private static void workLeavesOtherDoors() {
        KeyShop x = shop(2, 2, 1, 1);
        x.height(1, 0, 8, true);
        x.wish(0, 1, 1);
        x.wish(1, 0, 1);
        DUE.same("the first DOOR and KEY alone", x.work(1, 1, 1, 9), 1);
        DUE.same("the first DOOR stays EMPTY", x.heightAt(0, 0, 0), NOTHING);
        DUE.same("the second one stays", x.heightAt(1, 0, 0), 8);
        sameCuts(x, 1, 4);
        DUE.same("all", x.work(2, 2, 1, 9), 1);
        DUE.same("the second one is new", x.heightAt(1, 0, 0), 0);
        DUE.same("the first one is new", x.heightAt(0, 0, 0), 1);
    }

    private static void trialsAtTheLimit() {
        KeyShop x = shop(1, 1, 0, 5);
        for (int chamber = 0; chamber < 5; chamber++) {
            x.height(0, chamber, 9, true);
        }
        x.wish(0, 0, 2);
        DUE.same("found at once", x.work(1, 1, 5, 9), 1);
        DUE.same("trials", x.trials(), 5);
        KeyShop y = shop(1, 1, 0, 5);
        y.wish(0, 0, 2);
        DUE.same("a NEVER that can't be met", y.work(1, 1, 5, 9), KeyShop.UNKNOWN);
        DUE.same("trials", y.trials(), 4000);
        DUE.same("finding", y.finding(), 0);
        sameCuts(y, 0, 3, 3, 3, 3, 3);
        DUE.same("no change", y.undo(), 1);
        DUE.same("but of wish()", y.wish(0, 0, 0), 0);
        y.wish(0, 0, 2);
        DUE.same("with STEP 0", y.work(1, 1, 5, 0), 0);
        DUE.same("trials", y.trials(), 10 * (1 + 10 * 4));
        y.work(1, 1, 4, 0);
        DUE.same("STATE leaves TRIALS", y.trials(), 410);
    }

    private static void anewRefusals() {
        KeyShop x = shop(3, 2, 1, 2);
        DUE.same("key -1", x.anew(-1, 3, 2, 2, 9), KeyShop.BAD);
        DUE.same("key k", x.anew(2, 2, 2, 2, 9), KeyShop.BAD);
        DUE.same("k 7", x.anew(0, 7, 2, 2, 9), KeyShop.BAD);
        DUE.same("k 0", x.anew(0, 0, 2, 2, 9), KeyShop.BAD);
        DUE.same("d 0", x.anew(0, 3, 0, 2, 9), KeyShop.BAD);
        DUE.same("n 6", x.anew(0, 3, 2, 6, 9), KeyShop.BAD);
        DUE.same("STEP 10", x.anew(0, 3, 2, 2, 10), KeyShop.BAD);
        DUE.same("a KEY that there is not", x.anew(5, 6, 2, 2, 9), KeyShop.STATE);
        DUE.same("not so many DOORS", x.anew(0, 3, 3, 2, 9), KeyShop.STATE);
        DUE.same("not LOST", x.anew(0, 3, 2, 2, 9), KeyShop.STATE);
        x.fit(0, -1);
        DUE.same("STATE ahead of NOTHING", x.anew(0, 3, 2, 2, 9), KeyShop.STATE);
        x.lose(0);
        DUE.same("NOTHING", x.anew(0, 3, 2, 2, 9), NOTHING);
        DUE.same("not n CUTS", x.anew(0, 3, 2, 3, 9), KeyShop.STATE);
        x.twin(0, 0);
        x.fit(0, 2);
        DUE.same("KIND", x.anew(0, 3, 2, 2, 9), KIND);
        x.fit(0, 1);
        DUE.same("the CYLINDER of one ahead", x.anew(0, 3, 2, 2, 9), KeyShop.STATE);
        DUE.same("trials", x.trials(), 0);
    }

    private static void anewPassesOver() {
        KeyShop x = shop(3, 1, 1, 1);
        x.wish(0, 0, 1);
        x.wish(1, 0, 1);
        x.wish(2, 0, 1);
        x.work(3, 1, 1, 9);
        x.lose(0);
        DUE.same("anew", x.anew(0, 3, 1, 1, 9), 1);
        sameCuts(x, 0, 0);
        sameCuts(x, 1, 1);
        sameCuts(x, 2, 2);
        DUE.same("trials", x.trials(), 2 + 3);
        DUE.same("the LOST one opens no more", x.opens(0, 0), 0);
        DUE.same("the others do", x.opens(1, 0), 1);
        DUE.same("the others do", x.opens(2, 0), 1);
        DUE.same("WISHES stay", x.wish(0, 0, 1), 1);
        DUE.same("LOST still", x.holder(0), -6);
        x.undo();
        x.undo();
        DUE.same("lose the last one", x.lose(2), KeyShop.NONE);
        DUE.same("anew", x.anew(2, 3, 1, 1, 9), 1);
        sameCuts(x, 0, 0);
        sameCuts(x, 1, 1);
        DUE.same("trials", x.trials(), 1 + 2);
    }

    private static void anewTakesNoLostCuts() {
        KeyShop x = shop(2, 1, 1, 2);
        x.lose(1);
        DUE.same("it WOULD OPEN an EMPTY one, always", x.anew(1, 2, 1, 2, 9), 0);
        DUE.same("trials", x.trials(), 10 + 100);
        x.height(0, 0, 9, true);
        DUE.same("it WOULD not", x.anew(1, 2, 1, 2, 9), 1);
        sameCuts(x, 0, 0, 0);
        DUE.same("trials", x.trials(), 2);
        KeyShop y = new KeyShop();
        y.blanks(3);
        y.key(2, 0L);
        y.key(2, 0L);
        y.key(2, 0L);
        y.cylinder(1, 2);
        y.height(0, 0, 9, true);
        y.door();
        y.fit(0, 0);
        y.lose(1);
        DUE.same("anew", y.anew(1, 3, 1, 2, 9), 1);
        sameCuts(y, 0, 0, 1);
        sameCuts(y, 1, 0, 0);
        sameCuts(y, 2, 0, 2);
        DUE.same("trials", y.trials(), 3 + 4);
    }

    private static void anewOverridesWishes() {
        KeyShop x = shop(2, 2, 1, 1);
        x.height(0, 0, 3, true);
        x.height(1, 0, 9, true);
        x.wish(0, 0, 1);
        x.wish(0, 1, 2);
        x.wish(1, 0, 1);
        x.wish(1, 1, 1);
        x.lose(0);
        DUE.same("anew", x.anew(0, 2, 2, 1, 9), 1);
        sameCuts(x, 0, 3);
        sameCuts(x, 1, 0);
        DUE.same("its OPEN counts no more", x.heightAt(0, 0, 1), -12);
        DUE.same("it opens no more", x.opens(0, 0), 0);
        KeyShop y = shop(2, 1, 1, 1);
        y.height(0, 0, 9, true);
        y.wish(0, 0, 2);
        y.lose(0);
        y.height(0, 0, 9, false);
        DUE.same("what it opens now is NEVER", y.anew(0, 2, 1, 1, 9), 0);
        DUE.same("trials", y.trials(), 10);
    }

    private static void anewAlone() {
        KeyShop x = shop(1, 2, 1, 2);
        x.height(0, 0, 9, true);
        x.height(1, 1, 9, true);
        x.wish(0, 0, 1);
        x.lose(0);
        DUE.same("each NEVER is met", x.anew(0, 1, 2, 2, 9), 1);
        DUE.same("trials", x.trials(), 0);
        DUE.same("it is a change", x.undo(), 1);
        DUE.same("LOST still", x.holder(0), -6);
        sameCuts(x, 0, 3, 3);
        DUE.same("the HEIGHTS stay", x.heightAt(0, 0, 0), 9);
        x.work(1, 1, 2, 9);
        DUE.same("trials of work", x.trials(), 2);
        DUE.same("it WOULD OPEN a DOOR", x.anew(0, 1, 1, 2, 9), 0);
        DUE.same("trials", x.trials(), 0);
    }

    private static void sameCuts(KeyShop x, int key, int... cuts) {
        DUE.same("length of " + key, x.length(key), cuts.length);
        for (int i = 0; i < cuts.length; i++) {
            DUE.same("cut " + i + " of " + key, x.cut(key, i), cuts[i]);
        }
    }
}
