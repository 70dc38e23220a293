/** Promises 20 to 22: the sentences that name a boundary case. */
public final class CabinetBoundsTest {
    private static final Due DUE = new Due("CabinetBoundsTest");
    private static final int NONE = Bounds.NONE, BAD = Bounds.BAD, FULL = Bounds.FULL;
    private static final int PLACE = Bounds.PLACE, STORE = Bounds.STORE, SIZE = Bounds.SIZE;
    /** Each has the number of its KIND. */
    private static final String FIVE = "cylinder(0, 2); cylinder(1, 2); cylinder(2, 2); cylinder(3, 2); twin(0, 1); ";

    public static void main(String[] args) {
        cabinet();
        cabinetsAreFull();
        put();
        putFindings();
        store();
        putRefusals();
        inside();
        DUE.end();
    }

    private static Bounds promise(int number, String sentence, String... shop) {
        return new Bounds(DUE, "promise " + number + ": " + sentence, shop);
    }

    private static void cabinet() {
        for (int kind = 0; kind <= 4; kind++) {
            String call = "cabinet(" + kind + ", ";
            promise(20, "of a KIND (0 to 4), n empty places: its number", FIVE)
                .taken(call + "0)", 0).then("inside(0, 0)", PLACE).then("told(2)", 1)
                .taken(call + "20)", 0).then("inside(0, 0)", NONE).then("inside(0, 19)", NONE)
                .then("inside(0, 20)", PLACE);
            promise(20, "BAD: also n above 20", FIVE).refused(call + "21)", BAD).refused(call + "GREATEST)", BAD);
            promise(20, "SIZE", FIVE).refused(call + "-1)", SIZE).then("told(2)", 0).refused(call + "LEAST)", SIZE);
        }
        promise(20, "a KIND (0 to 4), else BAD", FIVE)
            .refused("cabinet(-1, 1)", BAD).refused("cabinet(5, 1)", BAD)
            .refused("cabinet(LEAST, 1)", BAD).refused("cabinet(GREATEST, 1)", BAD);
        promise(20, "BAD ahead of SIZE", FIVE).refused("cabinet(-1, -1)", BAD).refused("cabinet(5, -1)", BAD);
    }

    private static void cabinetsAreFull() {
        String but1 = FIVE + Run.times(11, "cabinet(0, 1)");
        promise(20, "its number, from 0 on: the 12th", but1).taken("cabinet(4, 20)", 11).then("told(2)", 12);
        String all = but1 + "cabinet(4, 2)";
        promise(20, "FULL: there are 12", all).refused("cabinet(0, 0)", FULL).refused("cabinet(4, 20)", FULL);
        promise(20, "FULL ahead of SIZE", all).refused("cabinet(0, -1)", FULL);
        promise(20, "BAD ahead of FULL", all)
            .refused("cabinet(-1, 1)", BAD).refused("cabinet(5, 1)", BAD).refused("cabinet(0, 21)", BAD);
        promise(20, "FULL no more, when one is undone", all, "undo()", "person()").taken("cabinet(0, 1)", 11);
    }

    private static void put() {
        String shop = FIVE + "cabinet(0, 20); cabinet(0, 1)";
        promise(21, "a place has a CYLINDER: what it had, NONE", shop)
            .taken("put(0, 0, 0)", NONE).then("inside(0, 0)", 0).then("inside(0, 1)", NONE)
            .taken("put(0, 19, 3)", NONE).then("inside(0, 19)", 3).then("inside(1, 0)", NONE)
            .taken("put(1, 0, 3)", NONE).then("inside(1, 0)", 3).then("inside(0, 19)", NONE);
        promise(21, "NONE: nothing", shop).taken("put(0, 0, NONE)", NONE).then("inside(0, 0)", NONE);
        String full = shop + "; put(0, 0, 2); put(0, 19, 3)";
        promise(21, "what it had", full)
            .taken("put(0, 0, 1)", 2).then("inside(0, 0)", 1).taken("put(0, 0, 2)", 2).then("inside(0, 0)", 2)
            .taken("put(0, 0, NONE)", 2).then("inside(0, 0)", NONE).taken("put(0, 19, NONE)", 3);
        promise(21, "which may be in several", full)
            .taken("put(0, 1, 2)", NONE).then("inside(0, 0)", 2).then("inside(0, 1)", 2)
            .taken("put(1, 0, 2)", NONE).then("inside(0, 0)", 2).then("inside(1, 0)", 2);
        promise(21, "it had the CYLINDER 0", shop, "put(0, 0, 0)").taken("put(0, 0, NONE)", 0);
    }

    private static void putFindings() {
        String shop = FIVE + "cabinet(0, 3); cabinet(0, 20); cabinet(0, 0); put(1, 0, 0); put(0, 2, 1)";
        promise(21, "PLACE", shop)
            .refused("put(0, -1, 0)", PLACE).refused("put(0, 3, 0)", PLACE).refused("put(1, 20, 0)", PLACE)
            .refused("put(2, 0, 0)", PLACE).refused("put(2, -1, 0)", PLACE)
            .refused("put(0, LEAST, 0)", PLACE).refused("put(0, GREATEST, 0)", PLACE);
        promise(21, "PLACE, of nothing", shop)
            .refused("put(0, -1, NONE)", PLACE).refused("put(0, 3, NONE)", PLACE).refused("put(2, 0, NONE)", PLACE);
        promise(21, "PLACE ahead of STORE", shop).refused("put(0, 3, 4)", PLACE).refused("put(0, -1, 4)", PLACE);
        promise(21, "BAD ahead of PLACE", shop).refused("put(0, 3, 5)", BAD).refused("put(2, 0, -2)", BAD);
    }

    private static void store() {
        String cabinets = FIVE + "cabinet(0, 1); cabinet(1, 1); cabinet(2, 1); cabinet(3, 1); cabinet(4, 1)";
        String[] takes = {"0123", "12", "2", "3", "4"};
        for (int cabinet = 0; cabinet <= 4; cabinet++) {
            for (int cylinder = 0; cylinder <= 4; cylinder++) {
                String call = "put(" + cabinet + ", 0, " + cylinder + ")";
                if (takes[cabinet].contains(Integer.toString(cylinder))) {
                    promise(21, "those that are that, too, fit", cabinets)
                        .taken(call, NONE).then("inside(" + cabinet + ", 0)", cylinder);
                } else {
                    promise(21, "STORE", cabinets).refused(call, STORE).then("inside(" + cabinet + ", 0)", NONE);
                }
            }
            promise(21, "NONE: nothing, in a cabinet of each KIND", cabinets)
                .taken("put(" + cabinet + ", 0, NONE)", NONE);
        }
        promise(21, "STORE leaves what it has", cabinets, "put(0, 0, 2)")
            .refused("put(0, 0, 4)", STORE).then("inside(0, 0)", 2);
        promise(21, "a CORE that is OUT fits as one", cabinets, "takeCore(2)")
            .taken("put(2, 0, 2)", NONE).taken("put(1, 0, 2)", NONE);
    }

    private static void putRefusals() {
        String shop = FIVE + Run.times(11, "cabinet(0, 1)") + "cabinet(4, 1)";
        promise(21, "BAD", shop)
            .refused("put(-1, 0, 0)", BAD).refused("put(12, 0, 0)", BAD).refused("put(0, 0, -2)", BAD)
            .refused("put(0, 0, 5)", BAD).refused("put(LEAST, 0, 0)", BAD).refused("put(GREATEST, 0, 0)", BAD)
            .refused("put(0, 0, LEAST)", BAD).refused("put(0, 0, GREATEST)", BAD).taken("put(11, 0, 4)", NONE)
            .taken("put(0, 0, 3)", NONE);
        promise(21, "BAD: there is no cabinet", FIVE).refused("put(0, 0, NONE)", BAD);
    }

    private static void inside() {
        String shop = FIVE + Run.times(10, "cabinet(0, 1)") + "cabinet(0, 0); cabinet(0, 20); put(11, 19, 3); "
            + "put(11, 0, 0)";
        promise(22, "the CYLINDER in a place; NONE", shop)
            .asked("inside(11, 0)", 0).asked("inside(11, 19)", 3).asked("inside(11, 18)", NONE)
            .asked("inside(0, 0)", NONE);
        promise(22, "PLACE", shop)
            .refused("inside(11, 20)", PLACE).refused("inside(11, -1)", PLACE).refused("inside(10, 0)", PLACE)
            .refused("inside(0, 1)", PLACE).refused("inside(11, LEAST)", PLACE).refused("inside(11, GREATEST)", PLACE);
        promise(22, "BAD, ahead of PLACE", shop)
            .refused("inside(-1, 0)", BAD).refused("inside(12, 0)", BAD).refused("inside(12, 20)", BAD)
            .refused("inside(LEAST, 0)", BAD).refused("inside(GREATEST, 0)", BAD);
    }
}
