/** Promises 35 to 38. */
public final class AsksTest {
    private static final Due DUE = new Due("AsksTest");
    private static final int NOTHING = -11;

    public static void main(String[] args) {
        countsOfOneRow();
        countsWithSteps();
        countsOfDouble();
        countsOfBlind();
        countRefusals();
        countMeetsNothing();
        carries();
        carriesTheLeast();
        carriesAllFourteen();
        carriesOfFirstKeysAlone();
        carryRefusals();
        closedDoors();
        endangeredDoors();
        asksLeaveWhatIsTold();
        DUE.end();
    }

    private static void countsOfOneRow() {
        KeyShop x = new KeyShop();
        x.cylinder(1, 3);
        x.door();
        x.fit(0, 0);
        DUE.same("no CUTS, all EMPTY", x.count(0, 0, 0), 1);
        DUE.same("any CUTS", x.count(0, 3, 9), 1000);
        DUE.same("the most", x.count(0, 18, 9), 1000000000000000000L);
        x.height(0, 2, 1, true);
        x.height(0, 2, 5, true);
        x.height(0, 2, 8, true);
        DUE.same("too short", x.count(0, 2, 9), 0);
        DUE.same("no CUTS", x.count(0, 0, 9), 0);
        DUE.same("three HEIGHTS", x.count(0, 3, 9), 300);
        DUE.same("longer", x.count(0, 4, 9), 3000);
    }

    private static void countsWithSteps() {
        KeyShop x = new KeyShop();
        x.cylinder(0, 2);
        x.door();
        x.fit(0, 0);
        DUE.same("STEP 0", x.count(0, 18, 0), 10);
        DUE.same("STEP 1, one CUT", x.count(0, 1, 1), 10);
        DUE.same("STEP 1, two CUTS", x.count(0, 2, 1), 28);
        DUE.same("STEP 8, two CUTS", x.count(0, 2, 8), 98);
        x.height(0, 1, 0, true);
        DUE.same("STEP 1 to 0", x.count(0, 2, 1), 2);
        DUE.same("STEP 1 by 0", x.count(0, 3, 1), 4);
        x.height(0, 0, 5, true);
        DUE.same("STEP 4 from 5 to 0", x.count(0, 2, 4), 0);
        DUE.same("STEP 5 from 5 to 0", x.count(0, 2, 5), 1);
    }

    private static void countsOfDouble() {
        KeyShop x = new KeyShop();
        x.cylinder(1, 2);
        x.cylinder(2, 3);
        x.twin(0, 1);
        x.door();
        x.fit(0, 2);
        x.height(0, 0, 1, true);
        x.height(0, 0, 2, true);
        x.height(1, 0, 2, true);
        x.height(1, 0, 3, true);
        x.height(1, 1, 7, true);
        DUE.same("both", x.count(0, 2, 9), 1);
        DUE.same("longer", x.count(0, 3, 9), 10);
        x.height(1, 2, 7, true);
        DUE.same("too short for the second", x.count(0, 2, 9), 0);
        DUE.same("long enough", x.count(0, 3, 9), 1);
        x.height(0, 0, 2, false);
        DUE.same("nothing fits both", x.count(0, 3, 9), 0);
        DUE.same("finding", x.finding(), 0);
    }

    private static void countsOfBlind() {
        KeyShop x = new KeyShop();
        x.cylinder(3, 0);
        x.cylinder(0, 1);
        x.twin(0, 1);
        x.twin(1, 0);
        x.door();
        x.fit(0, 0);
        DUE.same("a BLIND", x.count(0, 0, 9), 0);
        x.fit(0, 2);
        DUE.same("a BLIND first", x.count(0, 1, 9), 0);
        x.fit(0, 3);
        DUE.same("a BLIND second", x.count(0, 1, 9), 0);
    }

    private static void countRefusals() {
        KeyShop x = new KeyShop();
        x.door();
        DUE.same("no DOOR", x.count(1, 1, 1), KeyShop.BAD);
        DUE.same("DOOR -1", x.count(-1, 1, 1), KeyShop.BAD);
        DUE.same("n -1", x.count(0, -1, 1), KeyShop.BAD);
        DUE.same("n 19", x.count(0, 19, 1), KeyShop.BAD);
        DUE.same("STEP -1", x.count(0, 1, -1), KeyShop.BAD);
        DUE.same("STEP 10", x.count(0, 1, 10), KeyShop.BAD);
        DUE.same("findings ever", x.told(7), 0);
    }

    private static void countMeetsNothing() {
        KeyShop x = new KeyShop();
        x.door();
        x.cylinder(2, 1);
        x.cylinder(3, 1);
        x.twin(1, 0);
        x.twin(0, 1);
        x.twin(1, -1);
        x.twin(-1, 1);
        DUE.same("no CYLINDER", x.count(0, 1, 1), NOTHING);
        DUE.same("finding", x.finding(), 1);
        x.fit(0, 2);
        DUE.same("not OUT", x.count(0, 1, 1), 0);
        DUE.same("finding is gone", x.finding(), 0);
        x.takeCore(0);
        for (int cylinder = 2; cylinder < 6; cylinder++) {
            x.fit(0, cylinder);
            DUE.same("a DOUBLE with none, or OUT: " + cylinder, x.count(0, 1, 1), NOTHING);
        }
        x.fit(0, 0);
        DUE.same("OUT", x.count(0, 1, 1), NOTHING);
        DUE.same("findings ever", x.told(7), 6);
    }

    /** KEY i has the CUT i; each DOOR's one CHAMBER has the HEIGHTS that are told. */
    private static KeyShop shop(int keys, int[]... heights) {
        KeyShop x = new KeyShop();
        x.blanks(20);
        for (int key = 0; key < keys; key++) {
            x.key(1, key % 10);
        }
        for (int door = 0; door < heights.length; door++) {
            x.cylinder(1, 1);
            x.door();
            x.fit(door, door);
            for (int height : heights[door]) {
                x.height(door, 0, height, true);
            }
        }
        return x;
    }

    private static void carries() {
        KeyShop x = shop(4, new int[] {0, 3}, new int[] {1, 3}, new int[] {2}, new int[] {9});
        DUE.same("nothing", x.carry(0), 0);
        DUE.same("one DOOR, the lowest KEY", x.carry(1), 1);
        DUE.same("one KEY for two", x.carry(3), 8);
        DUE.same("three DOORS", x.carry(7), 12);
        DUE.same("one that none WOULD OPEN", x.carry(15), 12);
        DUE.same("that one alone", x.carry(8), 0);
        x.lose(3);
        DUE.same("LOST ones too", x.carry(3), 8);
        DUE.same("no CYLINDER", x.fit(2, -1), 2);
        DUE.same("is not opened", x.carry(7), 8);
    }

    private static void carriesTheLeast() {
        KeyShop x = shop(4, new int[] {0, 3}, new int[] {1, 2}, new int[] {0, 2, 3}, new int[] {1, 2});
        DUE.same("of several the least row of bits", x.carry(15), 3);
        KeyShop y = shop(4, new int[] {2, 3}, new int[] {1, 3}, new int[] {0, 2});
        DUE.same("two of four", y.carry(7), 6);
        KeyShop z = shop(10, new int[] {0}, new int[] {1}, new int[] {2}, new int[] {3}, new int[] {4},
            new int[] {5}, new int[] {6}, new int[] {7}, new int[] {8}, new int[] {9});
        DUE.same("all are wanted", z.carry(1023), 1023);
        DUE.same("but few for few", z.carry(513), 513);
    }

    private static void carriesAllFourteen() {
        KeyShop x = new KeyShop();
        x.blanks(14);
        for (int i = 0; i < 14; i++) {
            x.key(2, i);
            x.cylinder(0, 2);
            x.height(i, 0, i % 10, true);
            x.height(i, 1, i / 10, true);
            x.door();
            x.fit(i, i);
        }
        DUE.same("each DOOR has a KEY of its own", x.carry((1 << 14) - 1), (1 << 14) - 1);
    }

    private static void carriesOfFirstKeysAlone() {
        KeyShop x = shop(0, new int[] {7}, new int[] {8});
        for (int key = 0; key < 13; key++) {
            x.key(0, 0L);
        }
        x.key(1, 7L);
        x.key(1, 8L);
        DUE.same("KEY 13 counts", x.carry(3), 1 << 13);
        DUE.same("KEY 14 does not", x.carry(2), 0);
        DUE.same("closed", x.closed(3), 2);
        DUE.same("endangered by KEY 14", x.endangered(14), 2);
    }

    private static void carryRefusals() {
        KeyShop x = new KeyShop();
        DUE.same("no DOORS", x.carry(0), 0);
        DUE.same("a bit of no DOOR", x.carry(1), KeyShop.BAD);
        DUE.same("closed: a bit of no DOOR", x.closed(1), KeyShop.BAD);
        for (int door = 0; door < 30; door++) {
            x.door();
        }
        DUE.same("bit 30", x.carry(1 << 30), KeyShop.BAD);
        DUE.same("all but bit 30", x.closed((1 << 30) - 1), (1 << 30) - 1);
        x.door();
        DUE.same("all bits", x.closed(Integer.MAX_VALUE), Integer.MAX_VALUE);
        x.door();
        DUE.same("above 31 DOORS", x.carry(Integer.MAX_VALUE), 0);
        DUE.same("below 0", x.carry(-1), KeyShop.BAD);
        DUE.same("least", x.carry(Integer.MIN_VALUE), KeyShop.BAD);
        DUE.same("closed: below 0", x.closed(Integer.MIN_VALUE), KeyShop.BAD);
    }

    private static void closedDoors() {
        KeyShop x = shop(2, new int[] {0}, new int[] {5}, new int[] {1, 5}, new int[] {});
        DUE.same("all", x.closed(15), 2);
        DUE.same("nothing", x.closed(0), 0);
        DUE.same("of those that are told alone", x.closed(1), 0);
        x.fit(3, -1);
        DUE.same("no CYLINDER", x.closed(15), 10);
        KeyShop y = shop(0, new int[] {0}, new int[] {});
        DUE.same("without KEYS", y.closed(3), 3);
    }

    private static void endangeredDoors() {
        KeyShop x = shop(2, new int[] {0, 1}, new int[] {1}, new int[] {});
        DUE.same("KEY 0", x.endangered(0), 5);
        DUE.same("KEY 1", x.endangered(1), 7);
        DUE.same("no KEY", x.endangered(2), KeyShop.BAD);
        DUE.same("KEY -1", x.endangered(-1), KeyShop.BAD);
        for (int door = 3; door < 40; door++) {
            x.door();
            x.fit(door, 2);
        }
        DUE.same("DOORS 0 to 30 alone", x.endangered(0), Integer.MAX_VALUE - 2);
        x.twin(2, -1);
        x.fit(0, 3);
        DUE.same("a FINDING: not", x.endangered(0), Integer.MAX_VALUE - 3);
    }

    private static void asksLeaveWhatIsTold() {
        KeyShop x = shop(2, new int[] {0}, new int[] {1});
        x.cylinder(3, 0);
        x.turn(0, 2);
        x.cut(0, 9);
        x.door();
        x.carry(7);
        x.closed(7);
        x.endangered(0);
        DUE.same("AT", x.at(), 0);
        DUE.same("TRACE", x.trace(0), 3);
        DUE.same("entries", x.told(8), 1);
        DUE.same("finding", x.finding(), 2);
        DUE.same("findings ever", x.told(7), 1);
        DUE.same("the latest change is door()", x.undo(), 1);
        DUE.same("doors", x.told(3), 2);
    }
}
