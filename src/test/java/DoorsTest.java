/** Promises 23 to 30. */
public final class DoorsTest {
    private static final Due DUE = new Due("DoorsTest");
    private static final int LOST = -6;

    public static void main(String[] args) {
        doorNumbers();
        fitted();
        personNumbers();
        lent();
        broughtBack();
        lostAndFound();
        refusals();
        DUE.end();
    }

    private static void doorNumbers() {
        KeyShop x = new KeyShop();
        for (int i = 0; i < 40; i++) {
            DUE.same("door " + i, x.door(), i);
        }
        DUE.same("the 41st", x.door(), KeyShop.FULL);
        DUE.same("told", x.told(3), 40);
        DUE.same("the last one is undone", x.undo(), 1);
        DUE.same("told", x.told(3), 39);
        DUE.same("once more", x.door(), 39);
        DUE.same("without a CYLINDER", x.fit(39, -1), KeyShop.NONE);
    }

    private static void fitted() {
        KeyShop x = new KeyShop();
        x.cylinder(0, 1);
        x.cylinder(2, 1);
        x.door();
        x.door();
        DUE.same("fit", x.fit(0, 0), KeyShop.NONE);
        DUE.same("at several", x.fit(1, 0), KeyShop.NONE);
        DUE.same("another one", x.fit(0, 1), 0);
        DUE.same("none", x.fit(0, -1), 1);
        DUE.same("none again", x.fit(0, -1), KeyShop.NONE);
        DUE.same("the other has it still", x.fit(1, -1), 0);
        DUE.same("no DOOR", x.fit(2, 0), KeyShop.BAD);
        DUE.same("DOOR -1", x.fit(-1, 0), KeyShop.BAD);
        DUE.same("no CYLINDER", x.fit(0, 2), KeyShop.BAD);
        DUE.same("CYLINDER -2", x.fit(0, -2), KeyShop.BAD);
    }

    private static void personNumbers() {
        KeyShop x = new KeyShop();
        for (int i = 0; i < 40; i++) {
            DUE.same("person " + i, x.person(), i);
        }
        DUE.same("the 41st", x.person(), KeyShop.FULL);
        DUE.same("told", x.told(4), 40);
    }

    private static KeyShop shopWithKeys() {
        KeyShop x = new KeyShop();
        x.blanks(5);
        for (int i = 0; i < 3; i++) {
            x.key(1, i);
        }
        x.person();
        x.person();
        return x;
    }

    private static void lent() {
        KeyShop x = shopWithKeys();
        DUE.same("in the shop", x.holder(0), KeyShop.NONE);
        DUE.same("lend", x.lend(0, 1), 1);
        DUE.same("lend", x.lend(2, 1), 2);
        DUE.same("to the other", x.lend(1, 0), 1);
        DUE.same("holder", x.holder(0), 1);
        DUE.same("holder", x.holder(1), 0);
        DUE.same("lent already", x.lend(0, 0), KeyShop.STATE);
        DUE.same("to the same", x.lend(0, 1), KeyShop.STATE);
        x.bringBack(0);
        x.lose(2);
        DUE.same("after all went", x.lend(0, 1), 1);
        DUE.same("LOST", x.lend(2, 1), KeyShop.STATE);
    }

    private static void broughtBack() {
        KeyShop x = shopWithKeys();
        DUE.same("not lent", x.bringBack(0), KeyShop.STATE);
        x.lend(0, 1);
        DUE.same("by whom", x.bringBack(0), 1);
        DUE.same("in the shop", x.holder(0), KeyShop.NONE);
        DUE.same("not again", x.bringBack(0), KeyShop.STATE);
        x.lend(0, 0);
        DUE.same("by person 0", x.bringBack(0), 0);
        x.lend(0, 0);
        x.lose(0);
        DUE.same("LOST is not lent", x.bringBack(0), KeyShop.STATE);
    }

    private static void lostAndFound() {
        KeyShop x = shopWithKeys();
        DUE.same("not LOST", x.found(0), KeyShop.STATE);
        DUE.same("from the shop", x.lose(0), KeyShop.NONE);
        DUE.same("holder", x.holder(0), LOST);
        DUE.same("LOST already", x.lose(0), KeyShop.STATE);
        DUE.same("found", x.found(0), 1);
        DUE.same("holder", x.holder(0), KeyShop.NONE);
        x.lend(1, 1);
        DUE.same("not LOST but lent", x.found(1), KeyShop.STATE);
        DUE.same("who had it", x.lose(1), 1);
        DUE.same("holder", x.holder(1), LOST);
        DUE.same("found", x.found(1), 1);
        DUE.same("in the shop", x.holder(1), KeyShop.NONE);
        DUE.same("undo", x.undo(), 1);
        DUE.same("LOST again", x.holder(1), LOST);
    }

    private static void refusals() {
        KeyShop x = shopWithKeys();
        int[] none = {-1, 3, Integer.MAX_VALUE, Integer.MIN_VALUE};
        for (int key : none) {
            DUE.same("lend", x.lend(key, 0), KeyShop.BAD);
            DUE.same("bringBack", x.bringBack(key), KeyShop.BAD);
            DUE.same("lose", x.lose(key), KeyShop.BAD);
            DUE.same("found", x.found(key), KeyShop.BAD);
            DUE.same("holder", x.holder(key), KeyShop.BAD);
        }
        DUE.same("no person", x.lend(0, 2), KeyShop.BAD);
        DUE.same("person -1", x.lend(0, -1), KeyShop.BAD);
        x.lose(0);
        DUE.same("BAD ahead of STATE", x.lend(0, 2), KeyShop.BAD);
    }
}
