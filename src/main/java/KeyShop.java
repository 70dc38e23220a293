/** A shop of locks: cylinders, keys, cabinets, doors, persons, wishes, and a cutting that meets the wishes. */
public final class KeyShop {
    public static final int NONE = -1, BAD = -2, STATE = -3, FULL = -4, UNKNOWN = -5;

    private static final int LOST = -6;
    private static final int NOTHING = -11, PLACE = -12, KIND = -13, STORE = -14, SIZE = -15;
    private static final int PLAIN = 0, MASTER = 1, CORE = 2, BLIND = 3, DOUBLE = 4;
    private static final int NO_WISH = 0, WISH_OPEN = 1, WISH_NEVER = 2;

    private static final int MOST_CYLINDERS = 100, MOST_KEYS = 100, MOST_CABINETS = 12;
    private static final int MOST_DOORS = 40, MOST_PERSONS = 40;
    private static final int MOST_BLANKS = 1000, MOST_BOUGHT = 100;
    private static final int LONGEST_ROW = 18, MOST_PLACES = 20, HIGHEST = 9;
    private static final int ALL_HEIGHTS = 1023;
    private static final long MOST_CUTS = 999999999999999999L;
    private static final int DOORS_BY_BITS = 31, KEYS_TO_CARRY = 14;
    private static final int KEYS_TO_CUT = 6, DOORS_TO_CUT = 6, CUTS_TO_CUT = 5, MOST_TRIALS = 4000;
    private static final int TRACE_KEPT = 40;

    private Shop now = new Shop();
    private Shop before = new Shop();
    private boolean canUndo = false;
    private int tries = 0;
    private int latestFinding = 0;
    private int findingsEver = 0;
    private final Turning turning = new Turning();
    private final Turning unseen = new Turning();
    private final Cutting cutting = new Cutting();
    private final Counting counting = new Counting();
    private final Carrying carrying = new Carrying();

    public KeyShop() {
    }

    // ======== cylinders

    public int cylinder(int kind, int n) {
        return settle(makeCylinder(kind, n));
    }

    private int makeCylinder(int kind, int n) {
        if (kind < PLAIN || kind > BLIND || n > LONGEST_ROW) {
            return BAD;
        }
        if (now.cylinders.made >= MOST_CYLINDERS) {
            return FULL;
        }
        if (n < 0) {
            return SIZE;
        }
        remember();
        return now.cylinders.add(kind, n);
    }

    public int twin(int one, int two) {
        return settle(makeDouble(one, two));
    }

    private int makeDouble(int one, int two) {
        Cylinders cylinders = now.cylinders;
        if (!cylinders.hasOrNone(one) || !cylinders.hasOrNone(two)) {
            return BAD;
        }
        if (cylinders.made >= MOST_CYLINDERS) {
            return FULL;
        }
        if (cylinders.isDouble(one) || cylinders.isDouble(two)) {
            return KIND;
        }
        remember();
        return cylinders.addDouble(one, two);
    }

    public int height(int cylinder, int chamber, int height, boolean comes) {
        return settle(changeHeight(cylinder, chamber, height, comes));
    }

    private int changeHeight(int cylinder, int chamber, int height, boolean comes) {
        Cylinders cylinders = now.cylinders;
        if (!cylinders.has(cylinder) || height < 0 || height > HIGHEST) {
            return BAD;
        }
        int met = cylinders.chamberFinding(cylinder, chamber);
        if (met != 0) {
            return met;
        }
        int had = cylinders.heightsIn(cylinder, chamber);
        int bit = 1 << height;
        boolean wouldAdd = comes && (had & bit) == 0;
        if (wouldAdd && Integer.bitCount(had) >= cylinders.most(cylinder)) {
            return FULL;
        }
        remember();
        int has = comes ? had | bit : had & ~bit;
        cylinders.setHeights(cylinder, chamber, has);
        return Integer.bitCount(has);
    }

    public int heightAt(int cylinder, int chamber, int i) {
        return settle(lookAtHeight(cylinder, chamber, i));
    }

    private int lookAtHeight(int cylinder, int chamber, int i) {
        Cylinders cylinders = now.cylinders;
        if (!cylinders.has(cylinder)) {
            return BAD;
        }
        int met = cylinders.chamberFinding(cylinder, chamber);
        if (met != 0) {
            return met;
        }
        int heights = cylinders.heightsIn(cylinder, chamber);
        return heights == 0 ? NOTHING : heightNumber(heights, i);
    }

    private static int heightNumber(int heights, int i) {
        int lower = 0;
        for (int height = 0; height <= HIGHEST; height++) {
            if ((heights & 1 << height) != 0) {
                if (lower == i) {
                    return height;
                }
                lower++;
            }
        }
        return PLACE;
    }

    public int takeCore(int cylinder) {
        return settle(coreToTray(cylinder));
    }

    private int coreToTray(int cylinder) {
        Cylinders cylinders = now.cylinders;
        if (!cylinders.has(cylinder)) {
            return BAD;
        }
        if (!cylinders.isCore(cylinder)) {
            return KIND;
        }
        if (cylinders.isOut(cylinder)) {
            return NOTHING;
        }
        remember();
        return cylinders.rowToTray(cylinder);
    }

    public int putCore(int cylinder) {
        return settle(trayToCore(cylinder));
    }

    private int trayToCore(int cylinder) {
        Cylinders cylinders = now.cylinders;
        if (!cylinders.has(cylinder)) {
            return BAD;
        }
        if (!cylinders.isCore(cylinder)) {
            return KIND;
        }
        if (!cylinders.isOut(cylinder)) {
            return STATE;
        }
        if (cylinders.trayRow == NONE) {
            return NOTHING;
        }
        remember();
        return cylinders.rowFromTray(cylinder);
    }

    public int kind(int cylinder) {
        return now.cylinders.has(cylinder) ? now.cylinders.kinds[cylinder] : BAD;
    }

    public int chambers(int cylinder) {
        if (!now.cylinders.has(cylinder)) {
            return BAD;
        }
        int met = now.cylinders.rowFinding(cylinder);
        return settle(met != 0 ? met : now.cylinders.rows[cylinder]);
    }

    public int weight(int cylinder) {
        if (!now.cylinders.has(cylinder)) {
            return BAD;
        }
        turning.trace.begin();
        return settle(Weighing.weightOf(now.cylinders, cylinder, turning.trace));
    }

    // ======== keys

    public int blanks(int n) {
        if (n < 0 || n > MOST_BOUGHT) {
            return BAD;
        }
        if (now.blanks + n > MOST_BLANKS) {
            return FULL;
        }
        remember();
        now.blanks += n;
        return now.blanks;
    }

    public int key(int n, long cuts) {
        return settle(cutKey(n, cuts));
    }

    private int cutKey(int n, long cuts) {
        if (n > LONGEST_ROW || cuts < 0 || cuts > MOST_CUTS) {
            return BAD;
        }
        int refusal = cuttingRefusal();
        if (refusal != 0) {
            return refusal;
        }
        tries++;
        if (n < 0) {
            return SIZE;
        }
        remember();
        now.blanks--;
        return now.keys.add(n, cuts);
    }

    public int turned(int key, int n) {
        return settle(cutTurned(key, n));
    }

    private int cutTurned(int key, int n) {
        if (!now.keys.has(key) || n > LONGEST_ROW) {
            return BAD;
        }
        int refusal = cuttingRefusal();
        if (refusal != 0) {
            return refusal;
        }
        tries++;
        if (n < 0) {
            return SIZE;
        }
        if (n > now.keys.lengths[key]) {
            return PLACE;
        }
        remember();
        now.blanks--;
        return now.keys.addTurned(key, n);
    }

    private int cuttingRefusal() {
        if (now.keys.made >= MOST_KEYS) {
            return FULL;
        }
        return now.blanks == 0 ? STATE : 0;
    }

    public int cut(int key, int i) {
        if (!now.keys.has(key)) {
            return BAD;
        }
        return settle(now.keys.hasCut(key, i) ? now.keys.cutAt(key, i) : PLACE);
    }

    public int length(int key) {
        return now.keys.has(key) ? now.keys.lengths[key] : BAD;
    }

    // ======== turning

    public int turn(int key, int cylinder) {
        if (!now.keys.has(key) || !now.cylinders.has(cylinder)) {
            return BAD;
        }
        turning.begin();
        return settle(turning.tryKey(now, key, cylinder));
    }

    public int opens(int key, int door) {
        if (!now.keys.has(key) || !now.hasDoor(door)) {
            return BAD;
        }
        turning.begin();
        return settle(turning.tryKey(now, key, now.fitted[door]));
    }

    public int turnAll(int cabinet, int key) {
        if (!now.cabinets.has(cabinet) || !now.keys.has(key)) {
            return BAD;
        }
        turning.begin();
        return settle(turnPlaceByPlace(cabinet, key));
    }

    private int turnPlaceByPlace(int cabinet, int key) {
        int opened = 0;
        for (int place = 0; place < now.cabinets.sizes[cabinet]; place++) {
            int answer = turning.tryKey(now, key, now.cabinets.cylinderAt(cabinet, place));
            if (answer != 1) {
                return answer == 0 ? opened : answer;
            }
            opened++;
        }
        return opened;
    }

    public int at() {
        return turning.stoppedAt;
    }

    // ======== cabinets

    public int cabinet(int kind, int n) {
        return settle(makeCabinet(kind, n));
    }

    private int makeCabinet(int kind, int n) {
        if (kind < PLAIN || kind > DOUBLE || n > MOST_PLACES) {
            return BAD;
        }
        if (now.cabinets.made >= MOST_CABINETS) {
            return FULL;
        }
        if (n < 0) {
            return SIZE;
        }
        remember();
        return now.cabinets.add(kind, n);
    }

    public int put(int cabinet, int place, int cylinder) {
        return settle(putInside(cabinet, place, cylinder));
    }

    private int putInside(int cabinet, int place, int cylinder) {
        if (!now.cabinets.has(cabinet) || !now.cylinders.hasOrNone(cylinder)) {
            return BAD;
        }
        if (!now.cabinets.hasPlace(cabinet, place)) {
            return PLACE;
        }
        if (cylinder != NONE && !now.cylinders.isOf(cylinder, now.cabinets.kinds[cabinet])) {
            return STORE;
        }
        remember();
        return now.cabinets.exchange(cabinet, place, cylinder);
    }

    public int inside(int cabinet, int place) {
        if (!now.cabinets.has(cabinet)) {
            return BAD;
        }
        return settle(now.cabinets.hasPlace(cabinet, place) ? now.cabinets.cylinderAt(cabinet, place) : PLACE);
    }

    // ======== doors, persons

    public int door() {
        if (now.doors >= MOST_DOORS) {
            return FULL;
        }
        remember();
        now.fitted[now.doors] = NONE;
        now.doors++;
        return now.doors - 1;
    }

    public int fit(int door, int cylinder) {
        if (!now.hasDoor(door) || !now.cylinders.hasOrNone(cylinder)) {
            return BAD;
        }
        remember();
        int had = now.fitted[door];
        now.fitted[door] = cylinder;
        return had;
    }

    public int person() {
        if (now.persons >= MOST_PERSONS) {
            return FULL;
        }
        remember();
        now.persons++;
        return now.persons - 1;
    }

    public int lend(int key, int person) {
        if (!now.keys.has(key) || person < 0 || person >= now.persons) {
            return BAD;
        }
        if (now.keys.holders[key] != NONE) {
            return STATE;
        }
        remember();
        now.keys.holders[key] = person;
        return now.keys.heldBy(person);
    }

    public int bringBack(int key) {
        if (!now.keys.has(key)) {
            return BAD;
        }
        int had = now.keys.holders[key];
        if (had < 0) {
            return STATE;
        }
        remember();
        now.keys.holders[key] = NONE;
        return had;
    }

    public int lose(int key) {
        if (!now.keys.has(key)) {
            return BAD;
        }
        int had = now.keys.holders[key];
        if (had == LOST) {
            return STATE;
        }
        remember();
        now.keys.holders[key] = LOST;
        return had;
    }

    public int found(int key) {
        if (!now.keys.has(key)) {
            return BAD;
        }
        if (now.keys.holders[key] != LOST) {
            return STATE;
        }
        remember();
        now.keys.holders[key] = NONE;
        return 1;
    }

    public int holder(int key) {
        return now.keys.has(key) ? now.keys.holders[key] : BAD;
    }

    // ======== wishes, asks

    public int wish(int key, int door, int what) {
        if (!now.keys.has(key) || !now.hasDoor(door) || what < NO_WISH || what > WISH_NEVER) {
            return BAD;
        }
        remember();
        return now.keys.exchangeWish(key, door, what);
    }

    public int work(int k, int d, int n, int step) {
        return settle(cutByWishes(NONE, k, d, n, step));
    }

    public int anew(int key, int k, int d, int n, int step) {
        boolean isOfFirst = key >= 0 && key < k;
        return isOfFirst ? settle(cutByWishes(key, k, d, n, step)) : BAD;
    }

    /** ANEW for a KEY that is LOST; with NONE for it, all are cut. */
    private int cutByWishes(int lost, int k, int d, int n, int step) {
        if (!areCuttingSizes(k, d, n, step)) {
            return BAD;
        }
        if (now.keys.made < k || now.doors < d || lost != NONE && !canBePassedOver(lost, n)) {
            return STATE;
        }
        int refusal = doorsRefusal(d, n);
        if (refusal != 0) {
            return refusal;
        }
        cutting.begin(k, d, n, step);
        cutting.readDoors(now);
        cutting.readKeys(now.keys, lost);
        if (lost != NONE) {
            cutting.passOver(now.keys, lost, doorsThatOpen(lost));
        }
        int answer = cutting.search();
        if (answer == 1) {
            remember();
            cutting.carryOut(now);
        }
        return answer;
    }

    private static boolean areCuttingSizes(int k, int d, int n, int step) {
        return k >= 1 && k <= KEYS_TO_CUT && d >= 1 && d <= DOORS_TO_CUT
            && n >= 1 && n <= CUTS_TO_CUT && step >= 0 && step <= HIGHEST;
    }

    private boolean canBePassedOver(int key, int n) {
        return now.keys.has(key) && now.keys.holders[key] == LOST && now.keys.lengths[key] == n;
    }

    /** What keeps the first DOORS from being cut for, or 0. */
    private int doorsRefusal(int d, int n) {
        for (int door = 0; door < d; door++) {
            int cylinder = now.fitted[door];
            if (cylinder == NONE) {
                return NOTHING;
            }
            int met = now.cylinders.rowFinding(cylinder);
            if (met != 0) {
                return met;
            }
            if (now.cylinders.rows[cylinder] != n || isFittedAhead(cylinder, door)) {
                return STATE;
            }
        }
        return 0;
    }

    private boolean isFittedAhead(int cylinder, int door) {
        for (int ahead = 0; ahead < door; ahead++) {
            if (now.fitted[ahead] == cylinder) {
                return true;
            }
        }
        return false;
    }

    public int trials() {
        return cutting.trials;
    }

    public long count(int door, int n, int step) {
        if (!now.hasDoor(door) || n < 0 || n > LONGEST_ROW || step < 0 || step > HIGHEST) {
            return BAD;
        }
        long rows = counting.rowsThatOpen(now.cylinders, now.fitted[door], n, step);
        // a count may not fit an int, a FINDING does
        settle(rows == NOTHING ? NOTHING : 0);
        return rows;
    }

    public int carry(int doors) {
        if (!areDoors(doors)) {
            return BAD;
        }
        int keys = Math.min(now.keys.made, KEYS_TO_CARRY);
        carrying.begin();
        for (int key = 0; key < keys; key++) {
            carrying.addKey(doorsThatOpen(key));
        }
        return carrying.fewest(doors);
    }

    public int closed(int doors) {
        if (!areDoors(doors)) {
            return BAD;
        }
        int keys = Math.min(now.keys.made, KEYS_TO_CARRY);
        int open = 0;
        for (int key = 0; key < keys; key++) {
            open |= doorsThatOpen(key);
        }
        return doors & ~open;
    }

    public int endangered(int key) {
        return now.keys.has(key) ? doorsThatOpen(key) : BAD;
    }

    private boolean areDoors(int doors) {
        if (doors < 0) {
            return false;
        }
        return now.doors >= DOORS_BY_BITS || doors >> now.doors == 0;
    }

    private int doorsThatOpen(int key) {
        int asked = Math.min(now.doors, DOORS_BY_BITS);
        int open = 0;
        for (int door = 0; door < asked; door++) {
            unseen.begin();
            if (unseen.tryKey(now, key, now.fitted[door]) == 1) {
                open |= 1 << door;
            }
        }
        return open;
    }

    // ======== what is told

    public int undo() {
        if (!canUndo) {
            return STATE;
        }
        Shop undone = now;
        now = before;
        before = undone;
        canUndo = false;
        return 1;
    }

    public int finding() {
        return latestFinding;
    }

    public int trace(int i) {
        return turning.trace.entryAt(i);
    }

    public int told(int what) {
        switch (what) {
            case 0: return now.cylinders.made;
            case 1: return now.keys.made;
            case 2: return now.cabinets.made;
            case 3: return now.doors;
            case 4: return now.persons;
            case 5: return now.blanks;
            case 6: return tries;
            case 7: return findingsEver;
            case 8: return turning.trace.entries;
            case 9: return now.cylinders.trayRow;
            default: return BAD;
        }
    }

    /** To be called when a CHANGE is sure, ahead of its first step. */
    private void remember() {
        before.become(now);
        canUndo = true;
    }

    /** Every call that could meet a FINDING answers through this one. */
    private int settle(int answer) {
        if (answer <= NOTHING && answer >= SIZE) {
            latestFinding = -10 - answer;
            findingsEver++;
        } else if (answer != BAD && answer != STATE && answer != FULL) {
            latestFinding = 0;
        }
        return answer;
    }

    /** All that undo() brings back. */
    private static final class Shop {
        final Cylinders cylinders = new Cylinders();
        final Keys keys = new Keys();
        final Cabinets cabinets = new Cabinets();
        final int[] fitted = new int[MOST_DOORS];
        int doors = 0;
        int persons = 0;
        int blanks = 0;

        boolean hasDoor(int door) {
            return door >= 0 && door < doors;
        }

        void become(Shop other) {
            cylinders.become(other.cylinders);
            keys.become(other.keys);
            cabinets.become(other.cabinets);
            System.arraycopy(other.fitted, 0, fitted, 0, other.doors);
            doors = other.doors;
            persons = other.persons;
            blanks = other.blanks;
        }
    }

    private static final class Cylinders {
        final int[] kinds = new int[MOST_CYLINDERS];
        /** How many CHAMBERS; NONE: OUT. */
        final int[] rows = new int[MOST_CYLINDERS];
        /** A bit for each HEIGHT, CHAMBER by CHAMBER. */
        final int[] heights = new int[MOST_CYLINDERS * LONGEST_ROW];
        final int[] firsts = new int[MOST_CYLINDERS];
        final int[] seconds = new int[MOST_CYLINDERS];
        int made = 0;
        /** How many CHAMBERS lie on THE TRAY; NONE: it is empty. */
        int trayRow = NONE;
        final int[] tray = new int[LONGEST_ROW];

        boolean has(int cylinder) {
            return cylinder >= 0 && cylinder < made;
        }

        boolean hasOrNone(int cylinder) {
            return cylinder == NONE || has(cylinder);
        }

        boolean isDouble(int cylinder) {
            return has(cylinder) && kinds[cylinder] == DOUBLE;
        }

        boolean isCore(int cylinder) {
            return has(cylinder) && kinds[cylinder] == CORE;
        }

        boolean isBlind(int cylinder) {
            return has(cylinder) && kinds[cylinder] == BLIND;
        }

        boolean isOut(int cylinder) {
            return has(cylinder) && kinds[cylinder] == CORE && rows[cylinder] == NONE;
        }

        boolean isOf(int cylinder, int kind) {
            if (!has(cylinder)) {
                return false;
            }
            int own = kinds[cylinder];
            return own == kind || kind == PLAIN && own != DOUBLE || kind == MASTER && own == CORE;
        }

        int most(int cylinder) {
            if (isOf(cylinder, MASTER)) {
                return 4;
            }
            return isBlind(cylinder) ? 0 : 1;
        }

        /** The FINDING that keeps from a row of CHAMBERS, or 0. */
        int rowFinding(int cylinder) {
            if (isDouble(cylinder)) {
                return KIND;
            }
            return isOut(cylinder) ? NOTHING : 0;
        }

        int chamberFinding(int cylinder, int chamber) {
            int met = rowFinding(cylinder);
            if (met != 0) {
                return met;
            }
            return hasChamber(cylinder, chamber) ? 0 : PLACE;
        }

        boolean hasChamber(int cylinder, int chamber) {
            return has(cylinder) && chamber >= 0 && chamber < rows[cylinder];
        }

        int heightsIn(int cylinder, int chamber) {
            return hasChamber(cylinder, chamber) ? heights[cylinder * LONGEST_ROW + chamber] : 0;
        }

        void setHeights(int cylinder, int chamber, int has) {
            if (hasChamber(cylinder, chamber)) {
                heights[cylinder * LONGEST_ROW + chamber] = has;
            }
        }

        int add(int kind, int chambers) {
            int cylinder = made;
            made++;
            kinds[cylinder] = kind;
            rows[cylinder] = chambers;
            firsts[cylinder] = NONE;
            seconds[cylinder] = NONE;
            for (int chamber = 0; chamber < chambers; chamber++) {
                setHeights(cylinder, chamber, 0);
            }
            return cylinder;
        }

        int addDouble(int one, int two) {
            int cylinder = add(DOUBLE, 0);
            firsts[cylinder] = one;
            seconds[cylinder] = two;
            return cylinder;
        }

        int rowToTray(int cylinder) {
            System.arraycopy(heights, cylinder * LONGEST_ROW, tray, 0, rows[cylinder]);
            trayRow = rows[cylinder];
            rows[cylinder] = NONE;
            return trayRow;
        }

        int rowFromTray(int cylinder) {
            System.arraycopy(tray, 0, heights, cylinder * LONGEST_ROW, trayRow);
            rows[cylinder] = trayRow;
            trayRow = NONE;
            return rows[cylinder];
        }

        void become(Cylinders other) {
            made = other.made;
            System.arraycopy(other.kinds, 0, kinds, 0, made);
            System.arraycopy(other.rows, 0, rows, 0, made);
            System.arraycopy(other.heights, 0, heights, 0, made * LONGEST_ROW);
            System.arraycopy(other.firsts, 0, firsts, 0, made);
            System.arraycopy(other.seconds, 0, seconds, 0, made);
            trayRow = other.trayRow;
            System.arraycopy(other.tray, 0, tray, 0, LONGEST_ROW);
        }
    }

    private static final class Keys {
        final int[] lengths = new int[MOST_KEYS];
        final int[] cuts = new int[MOST_KEYS * LONGEST_ROW];
        /** The person who has it; NONE: the shop; LOST. */
        final int[] holders = new int[MOST_KEYS];
        /** A bit for each DOOR. */
        final long[] openWishes = new long[MOST_KEYS];
        final long[] neverWishes = new long[MOST_KEYS];
        int made = 0;

        boolean has(int key) {
            return key >= 0 && key < made;
        }

        boolean hasCut(int key, int i) {
            return has(key) && i >= 0 && i < lengths[key];
        }

        int cutAt(int key, int i) {
            return hasCut(key, i) ? cuts[key * LONGEST_ROW + i] : NONE;
        }

        void setCut(int key, int i, int cut) {
            if (hasCut(key, i)) {
                cuts[key * LONGEST_ROW + i] = cut;
            }
        }

        int add(int n, long figures) {
            int key = addEmpty(n);
            long rest = figures;
            for (int i = 0; i < n; i++) {
                setCut(key, i, (int) (rest % 10));
                rest /= 10;
            }
            return key;
        }

        int addTurned(int other, int n) {
            int key = addEmpty(n);
            for (int i = 0; i < n; i++) {
                setCut(key, i, cutAt(other, n - 1 - i));
            }
            return key;
        }

        private int addEmpty(int n) {
            int key = made;
            made++;
            lengths[key] = n;
            holders[key] = NONE;
            openWishes[key] = 0;
            neverWishes[key] = 0;
            return key;
        }

        int heldBy(int person) {
            int held = 0;
            for (int key = 0; key < made; key++) {
                if (holders[key] == person) {
                    held++;
                }
            }
            return held;
        }

        int wishFor(int key, int door) {
            long bit = 1L << door;
            if ((openWishes[key] & bit) != 0) {
                return WISH_OPEN;
            }
            return (neverWishes[key] & bit) != 0 ? WISH_NEVER : NO_WISH;
        }

        int exchangeWish(int key, int door, int what) {
            int had = wishFor(key, door);
            long bit = 1L << door;
            openWishes[key] = what == WISH_OPEN ? openWishes[key] | bit : openWishes[key] & ~bit;
            neverWishes[key] = what == WISH_NEVER ? neverWishes[key] | bit : neverWishes[key] & ~bit;
            return had;
        }

        void become(Keys other) {
            made = other.made;
            System.arraycopy(other.lengths, 0, lengths, 0, made);
            System.arraycopy(other.cuts, 0, cuts, 0, made * LONGEST_ROW);
            System.arraycopy(other.holders, 0, holders, 0, made);
            System.arraycopy(other.openWishes, 0, openWishes, 0, made);
            System.arraycopy(other.neverWishes, 0, neverWishes, 0, made);
        }
    }

    private static final class Cabinets {
        final int[] kinds = new int[MOST_CABINETS];
        final int[] sizes = new int[MOST_CABINETS];
        final int[] places = new int[MOST_CABINETS * MOST_PLACES];
        int made = 0;

        boolean has(int cabinet) {
            return cabinet >= 0 && cabinet < made;
        }

        boolean hasPlace(int cabinet, int place) {
            return has(cabinet) && place >= 0 && place < sizes[cabinet];
        }

        int cylinderAt(int cabinet, int place) {
            return hasPlace(cabinet, place) ? places[cabinet * MOST_PLACES + place] : NONE;
        }

        int exchange(int cabinet, int place, int cylinder) {
            int had = cylinderAt(cabinet, place);
            if (hasPlace(cabinet, place)) {
                places[cabinet * MOST_PLACES + place] = cylinder;
            }
            return had;
        }

        int add(int kind, int n) {
            int cabinet = made;
            made++;
            kinds[cabinet] = kind;
            sizes[cabinet] = n;
            for (int place = 0; place < n; place++) {
                exchange(cabinet, place, NONE);
            }
            return cabinet;
        }

        void become(Cabinets other) {
            made = other.made;
            System.arraycopy(other.kinds, 0, kinds, 0, made);
            System.arraycopy(other.sizes, 0, sizes, 0, made);
            System.arraycopy(other.places, 0, places, 0, made * MOST_PLACES);
        }
    }

    /** What was gone through: the first entries, and how many there were in all. */
    private static final class Trace {
        static final int PLAIN_TURNS = 1, MASTER_TURNS = 2, BLIND_TURNS = 3, DOUBLE_TURNS = 4;
        static final int PLAIN_WEIGHS = 5, CORE_WEIGHS = 6, DOUBLE_WEIGHS = 7;

        final int[] kept = new int[TRACE_KEPT];
        int entries = 0;

        void begin() {
            entries = 0;
        }

        void add(int what) {
            if (entries < TRACE_KEPT) {
                kept[entries] = what;
            }
            entries++;
        }

        int entryAt(int i) {
            return i >= 0 && i < entries && i < TRACE_KEPT ? kept[i] : NONE;
        }
    }

    private static final class Turning {
        final Trace trace = new Trace();
        /** The CHAMBER that ended the turning; NONE: none did. */
        int stoppedAt = NONE;

        void begin() {
            trace.begin();
            stoppedAt = NONE;
        }

        /** 1 it OPENS, 0 something BARS, or the FINDING that is met. */
        int tryKey(Shop shop, int key, int cylinder) {
            if (!shop.cylinders.isDouble(cylinder)) {
                return trySingle(shop, key, cylinder, 0);
            }
            trace.add(Trace.DOUBLE_TURNS);
            int first = trySingle(shop, key, shop.cylinders.firsts[cylinder], 0);
            if (first != 1) {
                return first;
            }
            return trySingle(shop, key, shop.cylinders.seconds[cylinder], LONGEST_ROW);
        }

        private int trySingle(Shop shop, int key, int cylinder, int countedFrom) {
            if (!shop.cylinders.has(cylinder)) {
                return NOTHING;
            }
            if (shop.cylinders.isBlind(cylinder)) {
                trace.add(Trace.BLIND_TURNS);
                stoppedAt = countedFrom;
                return 0;
            }
            if (shop.cylinders.isOf(cylinder, MASTER)) {
                trace.add(Trace.MASTER_TURNS);
            }
            trace.add(Trace.PLAIN_TURNS);
            if (shop.cylinders.isOut(cylinder)) {
                return NOTHING;
            }
            return tryRow(shop, key, cylinder, countedFrom);
        }

        private int tryRow(Shop shop, int key, int cylinder, int countedFrom) {
            int chambers = shop.cylinders.rows[cylinder];
            int cuts = shop.keys.lengths[key];
            for (int chamber = 0; chamber < chambers; chamber++) {
                int heights = shop.cylinders.heights[cylinder * LONGEST_ROW + chamber];
                if (heights == 0) {
                    continue;
                }
                if (chamber >= cuts) {
                    stoppedAt = countedFrom + chamber;
                    return PLACE;
                }
                if ((heights & 1 << shop.keys.cuts[key * LONGEST_ROW + chamber]) == 0) {
                    stoppedAt = countedFrom + chamber;
                    return 0;
                }
            }
            return 1;
        }
    }

    private static final class Weighing {
        static int weightOf(Cylinders cylinders, int cylinder, Trace trace) {
            if (!cylinders.isDouble(cylinder)) {
                return weightOfSingle(cylinders, cylinder, trace);
            }
            trace.add(Trace.DOUBLE_WEIGHS);
            int first = weightOfHalf(cylinders, cylinders.firsts[cylinder], trace);
            if (first < 0) {
                return first;
            }
            int second = weightOfHalf(cylinders, cylinders.seconds[cylinder], trace);
            return second < 0 ? second : first + second;
        }

        private static int weightOfHalf(Cylinders cylinders, int cylinder, Trace trace) {
            return cylinder == NONE ? 0 : weightOfSingle(cylinders, cylinder, trace);
        }

        private static int weightOfSingle(Cylinders cylinders, int cylinder, Trace trace) {
            int sum = 10;
            if (cylinders.isCore(cylinder)) {
                trace.add(Trace.CORE_WEIGHS);
                sum += 5;
            }
            trace.add(Trace.PLAIN_WEIGHS);
            if (cylinders.isOut(cylinder)) {
                return NOTHING;
            }
            for (int chamber = 0; chamber < cylinders.rows[cylinder]; chamber++) {
                sum += sumOf(cylinders.heightsIn(cylinder, chamber));
            }
            return sum;
        }

        private static int sumOf(int heights) {
            int sum = 0;
            for (int height = 0; height <= HIGHEST; height++) {
                if ((heights & 1 << height) != 0) {
                    sum += height;
                }
            }
            return sum;
        }
    }

    /** TO CUT by WISHES, and ANEW: a search of which each step is a TRIAL. */
    private static final class Cutting {
        int trials = 0;
        private int keys, doors, cutsEach, step;
        /** The KEYS that are tried, in their order; the place of one in it is its turn. */
        private final int[] tried = new int[KEYS_TO_CUT];
        private int turns;
        private int lost;
        /** A bit for each DOOR, KEY by KEY. */
        private final int[] shallOpen = new int[KEYS_TO_CUT];
        private final int[] shallNever = new int[KEYS_TO_CUT];
        private int openedDoors;
        private int blindDoors;
        private final int[] most = new int[DOORS_TO_CUT];
        private final int[] heightsNow = new int[DOORS_TO_CUT * CUTS_TO_CUT];
        private final int[] cuts = new int[KEYS_TO_CUT * CUTS_TO_CUT];
        /** What the DOORS' CHAMBERS have of the KEYS up to a turn: kept, so that a TRIAL goes over the DOORS alone. */
        private final int[][] heightsThen = new int[KEYS_TO_CUT][DOORS_TO_CUT * CUTS_TO_CUT];

        void begin(int keys, int doors, int cutsEach, int step) {
            this.keys = keys;
            this.doors = doors;
            this.cutsEach = cutsEach;
            this.step = step;
        }

        void readDoors(Shop shop) {
            blindDoors = 0;
            for (int door = 0; door < doors; door++) {
                int cylinder = shop.fitted[door];
                most[door] = shop.cylinders.most(cylinder);
                if (shop.cylinders.isBlind(cylinder)) {
                    blindDoors |= 1 << door;
                }
                for (int chamber = 0; chamber < cutsEach; chamber++) {
                    heightsNow[door * CUTS_TO_CUT + chamber] = shop.cylinders.heightsIn(cylinder, chamber);
                }
            }
        }

        void readKeys(Keys shopKeys, int passedOver) {
            long asked = (1L << doors) - 1;
            lost = NONE;
            turns = 0;
            openedDoors = 0;
            for (int key = 0; key < keys; key++) {
                if (key == passedOver) {
                    continue;
                }
                shallOpen[key] = (int) (shopKeys.openWishes[key] & asked);
                shallNever[key] = (int) (shopKeys.neverWishes[key] & asked);
                openedDoors |= shallOpen[key];
                tried[turns] = key;
                turns++;
            }
        }

        void passOver(Keys shopKeys, int key, int opensNow) {
            lost = key;
            shallNever[key] = opensNow;
            for (int i = 0; i < cutsEach; i++) {
                cuts[key * CUTS_TO_CUT + i] = shopKeys.cutAt(key, i);
            }
        }

        int search() {
            trials = 0;
            if (turns == 0) {
                return everyNeverIsMet() ? 1 : 0;
            }
            return tryCuts(0, 0);
        }

        private int tryCuts(int turn, int i) {
            if (turn >= turns || i >= cutsEach) {
                return 0;
            }
            for (int cut = 0; cut <= HIGHEST; cut++) {
                if (trials >= MOST_TRIALS) {
                    return UNKNOWN;
                }
                trials++;
                int answer = stands(turn, i, cut) ? goOn(turn, i) : 0;
                if (answer != 0) {
                    return answer;
                }
            }
            return 0;
        }

        private int goOn(int turn, int i) {
            if (i + 1 < cutsEach) {
                return tryCuts(turn, i + 1);
            }
            if (turn + 1 < turns) {
                return tryCuts(turn + 1, 0);
            }
            return everyNeverIsMet() ? 1 : 0;
        }

        private boolean stands(int turn, int i, int cut) {
            int place = tried[turn] * CUTS_TO_CUT + i;
            cuts[place] = cut;
            if (i > 0 && Math.abs(cut - cuts[place - 1]) > step) {
                return false;
            }
            if (!doorsTake(turn, i, cut)) {
                return false;
            }
            return i + 1 < cutsEach || !isCutAlready(turn);
        }

        private boolean doorsTake(int turn, int chamber, int cut) {
            int opened = shallOpen[tried[turn]];
            for (int door = 0; door < doors; door++) {
                int place = door * CUTS_TO_CUT + chamber;
                int heights = turn == 0 ? 0 : heightsThen[turn - 1][place];
                if ((opened & 1 << door) != 0) {
                    heights |= 1 << cut;
                    if (Integer.bitCount(heights) > most[door]) {
                        return false;
                    }
                }
                heightsThen[turn][place] = heights;
            }
            return true;
        }

        private boolean isCutAlready(int turn) {
            int key = tried[turn];
            for (int ahead = 0; ahead < turn; ahead++) {
                if (haveSameCuts(tried[ahead], key)) {
                    return true;
                }
            }
            return lost != NONE && haveSameCuts(lost, key);
        }

        private boolean haveSameCuts(int one, int other) {
            for (int i = 0; i < cutsEach; i++) {
                if (cuts[one * CUTS_TO_CUT + i] != cuts[other * CUTS_TO_CUT + i]) {
                    return false;
                }
            }
            return true;
        }

        private boolean everyNeverIsMet() {
            for (int key = 0; key < keys; key++) {
                for (int door = 0; door < doors; door++) {
                    if ((shallNever[key] & 1 << door) != 0 && !isBarred(key, door)) {
                        return false;
                    }
                }
            }
            return true;
        }

        private boolean isBarred(int key, int door) {
            if ((blindDoors & 1 << door) != 0) {
                return true;
            }
            int[] heightsAtEnd = isOpened(door) ? heightsThen[turns - 1] : heightsNow;
            for (int chamber = 0; chamber < cutsEach; chamber++) {
                int heights = heightsAtEnd[door * CUTS_TO_CUT + chamber];
                if (heights != 0 && (heights & 1 << cuts[key * CUTS_TO_CUT + chamber]) == 0) {
                    return true;
                }
            }
            return false;
        }

        private boolean isOpened(int door) {
            return turns > 0 && (openedDoors & 1 << door) != 0;
        }

        void carryOut(Shop shop) {
            for (int turn = 0; turn < turns; turn++) {
                int key = tried[turn];
                shop.keys.lengths[key] = cutsEach;
                for (int i = 0; i < cutsEach; i++) {
                    shop.keys.setCut(key, i, cuts[key * CUTS_TO_CUT + i]);
                }
            }
            for (int door = 0; door < doors; door++) {
                if (isOpened(door)) {
                    fillChambers(shop.cylinders, shop.fitted[door], door);
                }
            }
        }

        private void fillChambers(Cylinders cylinders, int cylinder, int door) {
            for (int chamber = 0; chamber < cutsEach; chamber++) {
                cylinders.setHeights(cylinder, chamber, heightsThen[turns - 1][door * CUTS_TO_CUT + chamber]);
            }
        }
    }

    /** How many rows of CUTS would OPEN: counted CUT by CUT, by what the latest CUT is. */
    private static final class Counting {
        private final int[] letPass = new int[LONGEST_ROW];
        private long[] rows = new long[HIGHEST + 1];
        private long[] longer = new long[HIGHEST + 1];

        long rowsThatOpen(Cylinders cylinders, int cylinder, int n, int step) {
            int first = cylinder;
            int second = cylinder;
            if (cylinders.isDouble(cylinder)) {
                first = cylinders.firsts[cylinder];
                second = cylinders.seconds[cylinder];
            }
            if (isMissing(cylinders, first) || isMissing(cylinders, second)) {
                return NOTHING;
            }
            for (int i = 0; i < n; i++) {
                letPass[i] = ALL_HEIGHTS;
            }
            if (!narrow(cylinders, first, n) || !narrow(cylinders, second, n)) {
                return 0;
            }
            return countUp(n, step);
        }

        private static boolean isMissing(Cylinders cylinders, int cylinder) {
            return cylinder == NONE || cylinders.isOut(cylinder);
        }

        /** Whether a row of n CUTS could OPEN it at all. */
        private boolean narrow(Cylinders cylinders, int cylinder, int n) {
            if (cylinders.isBlind(cylinder)) {
                return false;
            }
            for (int chamber = 0; chamber < cylinders.rows[cylinder]; chamber++) {
                int heights = cylinders.heightsIn(cylinder, chamber);
                if (heights == 0) {
                    continue;
                }
                if (chamber >= n) {
                    return false;
                }
                letPass[chamber] &= heights;
            }
            return true;
        }

        private long countUp(int n, int step) {
            if (n == 0) {
                return 1;
            }
            for (int cut = 0; cut <= HIGHEST; cut++) {
                rows[cut] = letPass[0] >> cut & 1;
            }
            for (int i = 1; i < n; i++) {
                lengthen(letPass[i], step);
            }
            long sum = 0;
            for (int cut = 0; cut <= HIGHEST; cut++) {
                sum += rows[cut];
            }
            return sum;
        }

        private void lengthen(int passing, int step) {
            for (int cut = 0; cut <= HIGHEST; cut++) {
                longer[cut] = (passing & 1 << cut) == 0 ? 0 : rowsNear(cut, step);
            }
            long[] shorter = rows;
            rows = longer;
            longer = shorter;
        }

        private long rowsNear(int cut, int step) {
            int highest = Math.min(HIGHEST, cut + step);
            long sum = 0;
            for (int near = Math.max(0, cut - step); near <= highest; near++) {
                sum += rows[near];
            }
            return sum;
        }
    }

    /** The fewest KEYS that WOULD OPEN all that any of them WOULD OPEN. */
    private static final class Carrying {
        private final int[] reach = new int[KEYS_TO_CARRY];
        /** What the KEYS below a number reach together. */
        private final int[] reachBelow = new int[KEYS_TO_CARRY + 1];
        private int keys;
        private int wanted;
        private int best;
        private int fewestYet;

        void begin() {
            keys = 0;
        }

        void addKey(int doors) {
            if (keys < KEYS_TO_CARRY) {
                reach[keys] = doors;
                reachBelow[keys + 1] = reachBelow[keys] | doors;
                keys++;
            }
        }

        int fewest(int doors) {
            wanted = doors & reachBelow[keys];
            best = 0;
            fewestYet = KEYS_TO_CARRY + 1;
            choose(keys, 0, 0);
            return best;
        }

        /** The highest KEY first, and first without it: so rows of bits come rising, and the least of equals stays. */
        private void choose(int undecided, int chosen, int reached) {
            if (Integer.bitCount(chosen) >= fewestYet) {
                return;
            }
            if ((wanted & ~reached) == 0) {
                best = chosen;
                fewestYet = Integer.bitCount(chosen);
                return;
            }
            boolean hopeless = (wanted & ~(reached | reachBelow[undecided])) != 0;
            if (hopeless || undecided <= 0) {
                return;
            }
            int key = undecided - 1;
            choose(key, chosen, reached);
            choose(key, chosen | 1 << key, reached | reach[key]);
        }
    }
}
