import java.util.ArrayList;
import java.util.List;
import java.util.Random;

/** Runs of calls, drawn with fixed seeds, on KeyShop and on PlainShop: both must answer alike. */
public final class RandomRunsTest {
    private static final Due DUE = new Due("RandomRunsTest");
    private static final int RUNS = 1000;
    private static final int CALLS = 450;

    private final Random random;
    private final KeyShop x = new KeyShop();
    private final PlainShop y = new PlainShop();
    private final List<String> calls = new ArrayList<>();
    /** How many CHAMBERS and CUTS this run likes, so that keys fit cylinders often. */
    private final int size;
    private final int heights;
    private final int wild;

    private RandomRunsTest(long seed) {
        random = new Random(seed);
        size = random.nextInt(4);
        heights = 1 + random.nextInt(4);
        wild = new int[] {8, 30, 200}[random.nextInt(3)];
    }

    public static void main(String[] args) {
        int[] seen = new int[CALL_KINDS];
        for (int seed = 0; seed < RUNS && DUE.wrong() == 0; seed++) {
            new RandomRunsTest(seed).run(seen);
        }
        for (int kind = 0; kind < CALL_KINDS; kind++) {
            DUE.isTrue("call " + kind + " was made often", seen[kind] > 1000);
        }
        DUE.end();
    }

    private void run(int[] seen) {
        int wrong = DUE.wrong();
        if (random.nextInt(8) != 0) {
            furnish();
        }
        for (int i = 0; i < CALLS && DUE.wrong() == wrong; i++) {
            int kind = LIKED[random.nextInt(LIKED.length)];
            seen[kind]++;
            call(kind);
        }
        wholeState();
        if (DUE.wrong() != wrong) {
            calls.forEach(System.out::println);
        }
    }

    /** A shop in which calls meet: with KEYS, full cabinets, and DOORS that have CYLINDERS. */
    private void furnish() {
        same("blanks(60)", x.blanks(60), y.blanks(60));
        for (int i = 0; i < 6; i++) {
            makeKey();
            makeCylinder();
            same("door()", x.door(), y.door());
            same("fit(" + i + ", " + i + ")", x.fit(i, i), y.fit(i, i));
        }
        makeTwin();
        same("person()", x.person(), y.person());
        for (int i = 0; i < 2; i++) {
            int kind = random.nextInt(3) == 0 ? 4 : 0;
            int n = 1 + random.nextInt(4);
            same("cabinet(" + kind + ", " + n + ")", x.cabinet(kind, n), y.cabinet(kind, n));
            for (int tries = 0; tries < 8; tries++) {
                put(i);
            }
        }
    }

    private void same(String call, long got, long due) {
        calls.add(call + " = " + due);
        DUE.same(call, got, due);
    }

    private int wildNumber() {
        int[] numbers = {-2, -1, 0, 1, 4, 5, 6, 7, 9, 10, 18, 19, 20, 21, 30, 31, 39, 40, 99, 100, 101,
            Integer.MAX_VALUE, Integer.MIN_VALUE};
        return numbers[random.nextInt(numbers.length)];
    }

    private int upTo(int most) {
        return random.nextInt(wild) == 0 ? wildNumber() : random.nextInt(Math.max(0, most) + 1);
    }

    private int number(int what) {
        int there = (int) y.told(what);
        // the first ones often, so that calls meet
        return upTo(random.nextInt(3) == 0 ? there - 1 : Math.min(there - 1, 5));
    }

    private int numberOrNone(int what) {
        return random.nextInt(6) == 0 ? -1 : number(what);
    }

    private int someSize() {
        return random.nextInt(5) == 0 ? upTo(random.nextBoolean() ? 5 : 18) : upTo(0) + size;
    }

    private long figures() {
        if (random.nextInt(wild) == 0) {
            return random.nextLong();
        }
        long figures = 0;
        for (int i = 0; i < 18; i++) {
            figures = figures * 10 + random.nextInt(random.nextInt(4) == 0 ? 10 : heights + 1);
        }
        return figures;
    }

    private int someHeight() {
        return upTo(random.nextInt(6) == 0 ? 9 : heights);
    }

    private int doorBits() {
        int there = Math.min(31, (int) y.told(3));
        int bits = (int) (random.nextLong() & (1L << there) - 1);
        return random.nextInt(wild) == 0 ? random.nextInt() : bits;
    }

    private static final int CALL_KINDS = 41;
    private static final int[] LIKED = liked();

    private static int[] liked() {
        int[] often = {3, 3, 10, 10, 14, 14, 15, 15, 16, 18, 19, 21, 22, 22, 25, 29, 29, 29, 29, 30, 30, 30, 31, 31, 33, 37};
        int[] all = new int[CALL_KINDS + often.length];
        for (int i = 0; i < CALL_KINDS; i++) {
            all[i] = i;
        }
        System.arraycopy(often, 0, all, CALL_KINDS, often.length);
        return all;
    }

    private void call(int kind) {
        int cylinder = number(0);
        int key = number(1);
        int cabinet = number(2);
        int door = number(3);
        switch (kind) {
            case 0: case 1: makeCylinder(); break;
            case 2: makeTwin(); break;
            case 3: changeHeight(cylinder); break;
            case 4: lookAtHeight(cylinder); break;
            case 5: same("takeCore(" + cylinder + ")", x.takeCore(cylinder), y.takeCore(cylinder)); break;
            case 6: same("putCore(" + cylinder + ")", x.putCore(cylinder), y.putCore(cylinder)); break;
            case 7: same("kind(" + cylinder + ")", x.kind(cylinder), y.kind(cylinder)); break;
            case 8: same("chambers(" + cylinder + ")", x.chambers(cylinder), y.chambers(cylinder)); break;
            case 9: same("weight(" + cylinder + ")", x.weight(cylinder), y.weight(cylinder)); break;
            case 10: makeKey(); break;
            case 11: cutTurned(key); break;
            case 12: lookAtCut(key); break;
            case 13: same("length(" + key + ")", x.length(key), y.length(key)); break;
            case 14: same("turn(" + key + ", " + cylinder + ")", x.turn(key, cylinder), y.turn(key, cylinder)); break;
            case 15: same("opens(" + key + ", " + door + ")", x.opens(key, door), y.opens(key, door)); break;
            case 16: same("turnAll(" + cabinet + ", " + key + ")", x.turnAll(cabinet, key), y.turnAll(cabinet, key)); break;
            case 17: makeCabinet(); break;
            case 18: put(cabinet); break;
            case 19: lookInside(cabinet); break;
            case 20: buyBlanks(); break;
            case 21: same("door()", x.door(), y.door()); break;
            case 22: fit(door); break;
            case 23: same("person()", x.person(), y.person()); break;
            case 24: lend(key); break;
            case 25: same("lose(" + key + ")", x.lose(key), y.lose(key)); break;
            case 26: same("bringBack(" + key + ")", x.bringBack(key), y.bringBack(key)); break;
            case 27: same("found(" + key + ")", x.found(key), y.found(key)); break;
            case 28: same("holder(" + key + ")", x.holder(key), y.holderOf(key)); break;
            default: callMore(kind, key, door);
        }
        same("at()", x.at(), y.at);
        same("finding()", x.finding(), y.finding);
        same("trials()", x.trials(), y.trials);
    }

    private void callMore(int kind, int key, int door) {
        switch (kind) {
            case 29: wish(key, door); break;
            case 30: work(); break;
            case 31: anew(key); break;
            case 32: case 33: count(door); break;
            case 34: carry(); break;
            case 35: same("endangered(" + key + ")", x.endangered(key), y.endangered(key)); break;
            case 36: same("undo()", x.undo(), y.undo()); break;
            case 37: same("found(" + key + ")", x.found(key), y.found(key)); break;
            case 38: traces(); break;
            case 39: counts(); break;
            default: putBack();
        }
    }

    private void makeCylinder() {
        int kind = upTo(3);
        int n = someSize();
        same("cylinder(" + kind + ", " + n + ")", x.cylinder(kind, n), y.cylinder(kind, n));
    }

    private void makeTwin() {
        int one = numberOrNone(0);
        int two = numberOrNone(0);
        same("twin(" + one + ", " + two + ")", x.twin(one, two), y.twin(one, two));
    }

    private void changeHeight(int cylinder) {
        int chamber = upTo(size);
        int height = someHeight();
        boolean comes = random.nextInt(3) != 0;
        same("height(" + cylinder + ", " + chamber + ", " + height + ", " + comes + ")",
            x.height(cylinder, chamber, height, comes), y.height(cylinder, chamber, height, comes));
    }

    private void lookAtHeight(int cylinder) {
        int chamber = upTo(size);
        int i = upTo(3);
        same("heightAt(" + cylinder + ", " + chamber + ", " + i + ")",
            x.heightAt(cylinder, chamber, i), y.heightAt(cylinder, chamber, i));
    }

    private void makeKey() {
        int n = someSize();
        long cuts = figures();
        same("key(" + n + ", " + cuts + ")", x.key(n, cuts), y.key(n, cuts));
    }

    private void cutTurned(int key) {
        int n = someSize();
        same("turned(" + key + ", " + n + ")", x.turned(key, n), y.turned(key, n));
    }

    private void lookAtCut(int key) {
        int i = someSize();
        same("cut(" + key + ", " + i + ")", x.cut(key, i), y.cut(key, i));
    }

    private void makeCabinet() {
        int kind = upTo(4);
        int n = upTo(random.nextInt(4) == 0 ? 20 : 4);
        same("cabinet(" + kind + ", " + n + ")", x.cabinet(kind, n), y.cabinet(kind, n));
    }

    private void put(int cabinet) {
        int place = upTo(4);
        int cylinder = numberOrNone(0);
        same("put(" + cabinet + ", " + place + ", " + cylinder + ")",
            x.put(cabinet, place, cylinder), y.put(cabinet, place, cylinder));
    }

    private void lookInside(int cabinet) {
        int place = upTo(4);
        same("inside(" + cabinet + ", " + place + ")", x.inside(cabinet, place), y.inside(cabinet, place));
    }

    private void buyBlanks() {
        int n = upTo(random.nextBoolean() ? 100 : 2);
        same("blanks(" + n + ")", x.blanks(n), y.blanks(n));
    }

    private void fit(int door) {
        int cylinder = random.nextInt(3) != 0 ? door : numberOrNone(0);
        same("fit(" + door + ", " + cylinder + ")", x.fit(door, cylinder), y.fit(door, cylinder));
    }

    private void lend(int key) {
        int person = number(4);
        same("lend(" + key + ", " + person + ")", x.lend(key, person), y.lend(key, person));
    }

    private void wish(int key, int door) {
        int what = upTo(2);
        same("wish(" + key + ", " + door + ", " + what + ")", x.wish(key, door, what), y.wish(key, door, what));
    }

    private int asked(int what) {
        return random.nextInt(4) == 0 ? upTo(7) : 1 + random.nextInt(Math.max(1, Math.min(6, (int) y.told(what))));
    }

    private int chambersAsked() {
        return random.nextInt(8) == 0 ? upTo(6) : Math.max(1, size);
    }

    private void work() {
        int k = asked(1);
        int d = asked(3);
        int n = chambersAsked();
        int step = upTo(random.nextBoolean() ? 9 : 1);
        same("work(" + k + ", " + d + ", " + n + ", " + step + ")", x.work(k, d, n, step), y.work(k, d, n, step));
    }

    private void anew(int key) {
        for (int other = 0; other < 6 && random.nextInt(4) != 0; other++) {
            if (y.holderOf(other) == PlainShop.LOST) {
                key = other;
            }
        }
        int k = asked(1);
        int d = asked(3);
        int n = chambersAsked();
        int step = upTo(9);
        same("anew(" + key + ", " + k + ", " + d + ", " + n + ", " + step + ")",
            x.anew(key, k, d, n, step), y.anew(key, k, d, n, step));
    }

    private void count(int door) {
        int n = random.nextInt(3) == 0 ? upTo(18) : someSize();
        int step = upTo(9);
        same("count(" + door + ", " + n + ", " + step + ")", x.count(door, n, step), y.count(door, n, step));
    }

    private void carry() {
        int doors = doorBits();
        same("carry(" + doors + ")", x.carry(doors), y.carry(doors));
        same("closed(" + doors + ")", x.closed(doors), y.closed(doors));
    }

    /** What is OUT comes in again, so that a run does not lose its CORES. */
    private void putBack() {
        for (int c = 0; c < y.told(0); c++) {
            if (y.kind(c) == 2 && y.s.cyls.get(c).row == null) {
                same("putCore(" + c + ")", x.putCore(c), y.putCore(c));
            }
        }
    }

    private void traces() {
        for (int i = 0; i < 6; i++) {
            int entry = i < 4 ? i : random.nextInt(44) - 2;
            same("trace(" + entry + ")", x.trace(entry), y.trace(entry));
        }
    }

    private void counts() {
        for (int what = -1; what <= 10; what++) {
            same("told(" + what + ")", x.told(what), y.told(what));
        }
    }

    private void wholeState() {
        counts();
        for (int key = 0; key < y.told(1); key++) {
            same("length(" + key + ")", x.length(key), y.length(key));
            same("holder(" + key + ")", x.holder(key), y.holderOf(key));
            for (int i = 0; i < y.length(key); i++) {
                same("cut(" + key + ", " + i + ")", x.cut(key, i), y.cut(key, i));
            }
        }
        for (int c = 0; c < y.told(0); c++) {
            same("weight(" + c + ")", x.weight(c), y.weight(c));
            same("chambers(" + c + ")", x.chambers(c), y.chambers(c));
            for (int chamber = 0; chamber < y.chambers(c); chamber++) {
                for (int i = 0; i < 5; i++) {
                    same("heightAt(" + c + ", " + chamber + ", " + i + ")",
                        x.heightAt(c, chamber, i), y.heightAt(c, chamber, i));
                }
            }
        }
        for (int cabinet = 0; cabinet < y.told(2); cabinet++) {
            for (int place = 0; place < 20; place++) {
                same("inside(" + cabinet + ", " + place + ")", x.inside(cabinet, place), y.inside(cabinet, place));
            }
        }
    }
}
