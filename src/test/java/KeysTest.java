/** Promises 11 to 15. */
public final class KeysTest {
    private static final Due DUE = new Due("KeysTest");
    private static final int PLACE = -12, SIZE = -15;

    public static void main(String[] args) {
        blanks();
        keysAreCut();
        keyRefusals();
        triesAndBlanks();
        turnedKeys();
        turnedRefusals();
        fullOfKeys();
        cutsAndLengths();
        DUE.end();
    }

    private static void blanks() {
        KeyShop x = new KeyShop();
        DUE.same("-1", x.blanks(-1), KeyShop.BAD);
        DUE.same("101", x.blanks(101), KeyShop.BAD);
        DUE.same("0", x.blanks(0), 0);
        DUE.same("0 is a change", x.undo(), 1);
        for (int i = 1; i <= 9; i++) {
            DUE.same("100 more", x.blanks(100), 100 * i);
        }
        DUE.same("99", x.blanks(99), 999);
        DUE.same("2 are too many", x.blanks(2), KeyShop.FULL);
        DUE.same("1", x.blanks(1), 1000);
        DUE.same("1 is too many", x.blanks(1), KeyShop.FULL);
        DUE.same("0 is not", x.blanks(0), 1000);
        DUE.same("BAD ahead of FULL", x.blanks(101), KeyShop.BAD);
        DUE.same("told", x.told(5), 1000);
    }

    private static void keysAreCut() {
        KeyShop x = new KeyShop();
        x.blanks(10);
        DUE.same("key 0", x.key(3, 987654L), 0);
        sameCuts(x, 0, 4, 5, 6);
        DUE.same("key 1", x.key(18, 999999999999999998L), 1);
        sameCuts(x, 1, 8, 9, 9, 9, 9, 9, 9, 9, 9, 9, 9, 9, 9, 9, 9, 9, 9, 9);
        DUE.same("key 2", x.key(18, 123456789012345678L), 2);
        sameCuts(x, 2, 8, 7, 6, 5, 4, 3, 2, 1, 0, 9, 8, 7, 6, 5, 4, 3, 2, 1);
        DUE.same("key 3", x.key(0, 5L), 3);
        sameCuts(x, 3);
        DUE.same("key 4", x.key(4, 7L), 4);
        sameCuts(x, 4, 7, 0, 0, 0);
        DUE.same("blanks left", x.told(5), 5);
        DUE.same("tries", x.told(6), 5);
        DUE.same("keys", x.told(1), 5);
    }

    private static void keyRefusals() {
        KeyShop x = new KeyShop();
        DUE.same("no BLANK", x.key(1, 1L), KeyShop.STATE);
        DUE.same("STATE ahead of SIZE", x.key(-1, 1L), KeyShop.STATE);
        DUE.same("BAD ahead of STATE", x.key(19, 1L), KeyShop.BAD);
        DUE.same("cuts below 0", x.key(1, -1L), KeyShop.BAD);
        x.blanks(1);
        DUE.same("cuts above", x.key(1, 1000000000000000000L), KeyShop.BAD);
        DUE.same("cuts least", x.key(1, Long.MIN_VALUE), KeyShop.BAD);
        DUE.same("BAD ahead of SIZE", x.key(-1, -1L), KeyShop.BAD);
        DUE.same("no tries yet", x.told(6), 0);
        DUE.same("SIZE", x.key(-1, 999999999999999999L), SIZE);
        DUE.same("finding", x.finding(), 5);
        DUE.same("the BLANK is back", x.told(5), 1);
        DUE.same("a try", x.told(6), 1);
        DUE.same("no change but blanks()", x.undo(), 1);
        DUE.same("blanks() undone", x.told(5), 0);
        DUE.same("TRIES stays", x.told(6), 1);
    }

    private static void triesAndBlanks() {
        KeyShop x = new KeyShop();
        x.blanks(2);
        x.key(2, 12L);
        DUE.same("PLACE", x.turned(0, 3), PLACE);
        DUE.same("SIZE", x.turned(0, -1), SIZE);
        DUE.same("blanks", x.told(5), 1);
        DUE.same("tries", x.told(6), 3);
        DUE.same("turned", x.turned(0, 2), 1);
        DUE.same("undo", x.undo(), 1);
        DUE.same("the BLANK is back", x.told(5), 1);
        DUE.same("TRIES stays", x.told(6), 4);
        DUE.same("keys", x.told(1), 1);
        DUE.same("length", x.length(1), KeyShop.BAD);
    }

    private static void turnedKeys() {
        KeyShop x = new KeyShop();
        x.blanks(9);
        x.key(5, 54321L);
        DUE.same("whole", x.turned(0, 5), 1);
        sameCuts(x, 1, 5, 4, 3, 2, 1);
        DUE.same("part", x.turned(0, 3), 2);
        sameCuts(x, 2, 3, 2, 1);
        DUE.same("nothing", x.turned(0, 0), 3);
        sameCuts(x, 3);
        sameCuts(x, 0, 1, 2, 3, 4, 5);
        DUE.same("one", x.turned(1, 1), 4);
        sameCuts(x, 4, 5);
    }

    private static void turnedRefusals() {
        KeyShop x = new KeyShop();
        DUE.same("no KEY", x.turned(0, 1), KeyShop.BAD);
        x.blanks(1);
        x.key(2, 11L);
        DUE.same("n 19", x.turned(0, 19), KeyShop.BAD);
        DUE.same("key -1", x.turned(-1, 1), KeyShop.BAD);
        DUE.same("STATE ahead of PLACE", x.turned(0, 3), KeyShop.STATE);
        x.blanks(1);
        DUE.same("n 18", x.turned(0, 18), PLACE);
        DUE.same("finding", x.finding(), 2);
        DUE.same("n least", x.turned(0, Integer.MIN_VALUE), SIZE);
    }

    private static void fullOfKeys() {
        KeyShop x = new KeyShop();
        x.blanks(100);
        for (int i = 0; i < 100; i++) {
            DUE.same("key " + i, x.key(2, i), i);
        }
        DUE.same("FULL ahead of STATE", x.key(1, 1L), KeyShop.FULL);
        DUE.same("FULL ahead of SIZE", x.key(-1, 1L), KeyShop.FULL);
        DUE.same("turned: FULL", x.turned(0, 1), KeyShop.FULL);
        DUE.same("turned: FULL ahead of PLACE", x.turned(0, 3), KeyShop.FULL);
        DUE.same("BAD ahead of FULL", x.turned(100, 1), KeyShop.BAD);
        DUE.same("tries", x.told(6), 100);
        sameCuts(x, 99, 9, 9);
        sameCuts(x, 42, 2, 4);
    }

    private static void cutsAndLengths() {
        KeyShop x = new KeyShop();
        x.blanks(1);
        x.key(2, 34L);
        DUE.same("cut 0", x.cut(0, 0), 4);
        DUE.same("cut 1", x.cut(0, 1), 3);
        DUE.same("cut 2", x.cut(0, 2), PLACE);
        DUE.same("finding", x.finding(), 2);
        DUE.same("cut -1", x.cut(0, -1), PLACE);
        DUE.same("length names no FINDING", x.length(0), 2);
        DUE.same("finding stays", x.finding(), 2);
        DUE.same("no KEY", x.cut(1, 0), KeyShop.BAD);
        DUE.same("KEY -1", x.cut(-1, 0), KeyShop.BAD);
        DUE.same("length of none", x.length(1), KeyShop.BAD);
        DUE.same("length of -1", x.length(-1), KeyShop.BAD);
    }

    private static void sameCuts(KeyShop x, int key, int... cuts) {
        DUE.same("length of " + key, x.length(key), cuts.length);
        for (int i = 0; i < cuts.length; i++) {
            DUE.same("cut " + i + " of " + key, x.cut(key, i), cuts[i]);
        }
        DUE.same("cut behind of " + key, x.cut(key, cuts.length), PLACE);
    }
}
