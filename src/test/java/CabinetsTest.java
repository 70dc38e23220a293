/** Promises 20 to 22. */
public final class CabinetsTest {
    private static final Due DUE = new Due("CabinetsTest");
    private static final int PLACE = -12, STORE = -14, SIZE = -15;

    public static void main(String[] args) {
        numbers();
        refusals();
        whatFits();
        putsAndLooks();
        putRefusals();
        DUE.end();
    }

    private static void numbers() {
        KeyShop x = new KeyShop();
        for (int i = 0; i < 12; i++) {
            DUE.same("cabinet " + i, x.cabinet(i % 5, i == 11 ? 20 : i), i);
        }
        DUE.same("the 13th", x.cabinet(0, 1), KeyShop.FULL);
        DUE.same("FULL ahead of SIZE", x.cabinet(0, -1), KeyShop.FULL);
        DUE.same("BAD ahead of FULL", x.cabinet(5, 1), KeyShop.BAD);
        DUE.same("told", x.told(2), 12);
        for (int place = 0; place < 20; place++) {
            DUE.same("place " + place, x.inside(11, place), KeyShop.NONE);
        }
        DUE.same("place 20", x.inside(11, 20), PLACE);
        DUE.same("a cabinet without places", x.inside(0, 0), PLACE);
    }

    private static void refusals() {
        KeyShop x = new KeyShop();
        DUE.same("kind -1", x.cabinet(-1, 1), KeyShop.BAD);
        DUE.same("kind 5", x.cabinet(5, 1), KeyShop.BAD);
        DUE.same("n 21", x.cabinet(0, 21), KeyShop.BAD);
        DUE.same("n -1", x.cabinet(4, -1), SIZE);
        DUE.same("finding", x.finding(), 5);
        DUE.same("told", x.told(2), 0);
    }

    private static void whatFits() {
        KeyShop x = new KeyShop();
        for (int kind = 0; kind < 4; kind++) {
            x.cylinder(kind, 1);
        }
        x.twin(0, 0);
        for (int kind = 0; kind < 5; kind++) {
            x.cabinet(kind, 1);
        }
        String[] fits = {"yyyyn", "nyynn", "nnynn", "nnnyn", "nnnny"};
        for (int cabinet = 0; cabinet < 5; cabinet++) {
            for (int cylinder = 0; cylinder < 5; cylinder++) {
                int had = x.inside(cabinet, 0);
                int due = fits[cabinet].charAt(cylinder) == 'y' ? had : STORE;
                DUE.same("put " + cylinder + " into " + cabinet, x.put(cabinet, 0, cylinder), due);
            }
        }
        DUE.same("findings ever", x.told(7), 16);
    }

    private static void putsAndLooks() {
        KeyShop x = new KeyShop();
        x.cylinder(0, 1);
        x.cylinder(1, 1);
        x.cabinet(0, 3);
        x.cabinet(0, 3);
        DUE.same("put", x.put(0, 2, 0), KeyShop.NONE);
        DUE.same("in several", x.put(0, 1, 0), KeyShop.NONE);
        DUE.same("in several cabinets", x.put(1, 2, 0), KeyShop.NONE);
        DUE.same("another one", x.put(0, 2, 1), 0);
        DUE.same("inside", x.inside(0, 2), 1);
        DUE.same("inside", x.inside(0, 1), 0);
        DUE.same("inside", x.inside(1, 2), 0);
        DUE.same("nothing", x.put(0, 2, -1), 1);
        DUE.same("nothing again", x.put(0, 2, -1), KeyShop.NONE);
        DUE.same("inside", x.inside(0, 2), KeyShop.NONE);
    }

    private static void putRefusals() {
        KeyShop x = new KeyShop();
        x.cylinder(0, 1);
        x.cabinet(1, 2);
        DUE.same("no cabinet", x.put(1, 0, 0), KeyShop.BAD);
        DUE.same("cabinet -1", x.put(-1, 0, 0), KeyShop.BAD);
        DUE.same("no CYLINDER", x.put(0, 0, 1), KeyShop.BAD);
        DUE.same("CYLINDER -2", x.put(0, 0, -2), KeyShop.BAD);
        DUE.same("BAD ahead of PLACE", x.put(0, 2, 1), KeyShop.BAD);
        DUE.same("PLACE ahead of STORE", x.put(0, 2, 0), PLACE);
        DUE.same("PLACE of nothing", x.put(0, -1, -1), PLACE);
        DUE.same("STORE", x.put(0, 0, 0), STORE);
        DUE.same("finding", x.finding(), 4);
        DUE.same("nothing came in", x.inside(0, 0), KeyShop.NONE);
        DUE.same("finding none", x.finding(), 0);
        DUE.same("inside: place 2", x.inside(0, 2), PLACE);
        DUE.same("inside: place -1", x.inside(0, -1), PLACE);
        DUE.same("inside: no cabinet", x.inside(1, 0), KeyShop.BAD);
    }
}
