/** The sentences of "Terms" that bind several promises and name a boundary case. */
public final class TermsBoundsTest {
    private static final Due DUE = new Due("TermsBoundsTest");
    private static final int NONE = Bounds.NONE, BAD = Bounds.BAD, STATE = Bounds.STATE, FULL = Bounds.FULL;
    private static final int NOTHING = Bounds.NOTHING, PLACE = Bounds.PLACE, KIND = Bounds.KIND, STORE = Bounds.STORE;
    private static final int SIZE = Bounds.SIZE;

    public static void main(String[] args) {
        numbers();
        chambersAreEmptyAtFirst();
        heightsRise();
        heightsAtMost();
        kindsThatAreAnotherToo();
        rowIsOut();
        cuts();
        blanks();
        findingsEndWhatMeetsThem();
        orderOfAnswers();
        wishesAtFirst();
        DUE.end();
    }

    /** Terms bind promises: those are named in the sentence. */
    private static Bounds terms(String sentence, String... shop) {
        return new Bounds(DUE, "Terms, " + sentence, shop);
    }

    private static void numbers() {
        String cylinders = "";
        String keys = "blanks(100); ";
        for (int i = 0; i < 100; i++) {
            cylinders += (i % 5 == 4 ? "twin(0, NONE) = " : "cylinder(" + i % 5 + ", 0) = ") + i + ";";
            keys += (i % 2 == 1 ? "turned(0, 0) = " : "key(0, 0) = ") + i + ";";
        }
        terms("promises 2, 3: CYLINDERS are numbered from 0 on as they are made (100 at most)", cylinders)
            .asked("told(0)", 100).asked("kind(0)", 0).asked("kind(99)", 4).refused("kind(100)", BAD)
            .refused("cylinder(0, 0)", FULL).refused("twin(0, 0)", FULL);
        terms("promises 12, 13: KEYS are numbered from 0 on (100 at most)", keys)
            .asked("told(1)", 100).asked("length(99)", 0).refused("length(100)", BAD)
            .refused("key(0, 0)", FULL).refused("turned(0, 0)", FULL);
    }

    private static void chambersAreEmptyAtFirst() {
        for (int kind = 0; kind <= 3; kind++) {
            Bounds row = terms("promises 2, 5: CHAMBERS, each EMPTY at first", "cylinder(" + kind + ", 18)");
            for (int chamber = 0; chamber < 18; chamber++) {
                row.refused("heightAt(0, " + chamber + ", 0)", NOTHING);
            }
            row.refused("heightAt(0, 18, 0)", PLACE).refused("heightAt(0, -1, 0)", PLACE);
        }
    }

    private static void heightsRise() {
        int[][] orders = {{0, 3, 6, 9}, {9, 6, 3, 0}, {6, 0, 9, 3}, {3, 9, 0, 6}};
        for (int[] order : orders) {
            StringBuilder shop = new StringBuilder("cylinder(1, 1); ");
            for (int height : order) {
                shop.append("height(0, 0, " + height + ", true); height(0, 0, " + height + ", true);");
            }
            terms("promises 4, 5: HEIGHTS (0 to 9, rising, unlike)", shop.toString())
                .asked("heightAt(0, 0, 0)", 0).asked("heightAt(0, 0, 1)", 3).asked("heightAt(0, 0, 2)", 6)
                .asked("heightAt(0, 0, 3)", 9).refused("heightAt(0, 0, 4)", PLACE);
        }
        for (int height = 0; height <= 9; height++) {
            terms("promises 4, 5: HEIGHTS (0 to 9)", "cylinder(0, 1)")
                .taken("height(0, 0, " + height + ", true)", 1).then("heightAt(0, 0, 0)", height)
                .then("weight(0)", 10 + height);
        }
    }

    private static void heightsAtMost() {
        int[] most = {1, 4, 4, 0};
        for (int kind = 0; kind <= 3; kind++) {
            String shop = "cylinder(" + kind + ", 1); ";
            for (int height = 0; height <= 9; height++) {
                String call = "height(0, 0, " + height + ", true)";
                Bounds bounds = terms("promise 4: at most its MOST: a PLAIN 1, a MASTER, CORE 4, a BLIND 0", shop);
                if (height < most[kind]) {
                    bounds.taken(call, height + 1);
                    shop += call + "; ";
                } else {
                    bounds.refused(call, FULL);
                }
            }
        }
    }

    /** Each has the number of its KIND, but the second BLIND and the second DOUBLE, 5 and 6. */
    private static void kindsThatAreAnotherToo() {
        String shop = "cylinder(0, 1); cylinder(1, 1); cylinder(2, 1); cylinder(3, 1); twin(NONE, NONE); "
            + "cylinder(3, 0); " + "twin(0, 1); cabinet(0, 1); cabinet(1, 1); cabinet(2, 1); cabinet(3, 1); "
            + "cabinet(4, 1); ";
        terms("promises 3, 21: a MASTER is a PLAIN, too", shop).taken("put(0, 0, 1)", NONE).taken("twin(1, 1)", 7);
        terms("promises 3, 21: a CORE is a MASTER, too, and so a PLAIN", shop)
            .taken("put(1, 0, 2)", NONE).taken("put(0, 0, 2)", NONE).taken("twin(2, 2)", 7);
        terms("promises 3, 21: a BLIND is a PLAIN, too, and no MASTER", shop)
            .taken("put(0, 0, 3)", NONE).taken("twin(3, 5)", 7).refused("put(1, 0, 5)", STORE)
            .refused("put(2, 0, 3)", STORE);
        terms("promises 3, 21: a DOUBLE is no PLAIN", shop)
            .refused("put(0, 0, 6)", STORE).refused("twin(6, NONE)", KIND).refused("put(3, 0, 4)", STORE)
            .taken("put(4, 0, 4)", NONE);
        terms("promises 6, 21: a PLAIN, a MASTER is no CORE", shop)
            .refused("takeCore(0)", KIND).refused("takeCore(1)", KIND).refused("put(2, 0, 1)", STORE)
            .refused("put(1, 0, 0)", STORE);
    }

    private static void rowIsOut() {
        String shop = "blanks(1); key(1, 4); cylinder(2, 1); height(0, 0, 4, true); door(); fit(0, 0); takeCore(0)";
        terms("promises 4 to 10, 16, 17, 32, 35: a CORE's row can be OUT (there is none then)", shop)
            .refused("chambers(0)", NOTHING).refused("height(0, 0, 4, true)", NOTHING)
            .refused("height(0, 0, 4, false)", NOTHING).refused("heightAt(0, 0, 0)", NOTHING)
            .refused("takeCore(0)", NOTHING).refused("weight(0)", NOTHING).refused("turn(0, 0)", NOTHING)
            .refused("opens(0, 0)", NOTHING).refused("count(0, 1, 9)", NOTHING).refused("work(1, 1, 1, 9)", NOTHING)
            .asked("kind(0)", 2).asked("endangered(0)", 0).taken("putCore(0)", 1);
    }

    private static void cuts() {
        Bounds lengths = terms("promise 12: a row of 0 to 18 CUTS", "blanks(1)");
        for (int n = 0; n <= 18; n++) {
            lengths
                .taken("key(" + n + ", 999999999999999999)", 0).then("length(0)", n)
                .then("cut(0, " + (n - 1) + ")", n == 0 ? PLACE : 9).then("cut(0, " + n + ")", PLACE);
        }
        lengths.refused("key(-1, 0)", SIZE).refused("key(19, 0)", BAD);
        for (int cut = 0; cut <= 9; cut++) {
            terms("promises 12, 14: CUTS (0 to 9)", "blanks(1)").taken("key(1, " + cut + ")", 0).then("cut(0, 0)", cut);
        }
    }

    private static void blanks() {
        terms("promises 12, 13: STATE: there is no BLANK", "blanks(1); key(1, 1)")
            .refused("key(0, 0)", STATE).then("told(6)", 1).refused("turned(0, 0)", STATE).then("told(6)", 1);
        terms("promises 12, 13: one is taken, TRIES is 1 more", "blanks(2); key(1, 1)")
            .taken("key(0, 0)", 1).then("told(5)", 0).then("told(6)", 2)
            .taken("turned(0, 0)", 1).then("told(5)", 0).then("told(6)", 2);
        terms("promises 12, 13: if no KEY comes of it, it is put back", "blanks(2); key(1, 1)")
            .refused("key(-1, 0)", SIZE).then("told(5)", 1).then("told(6)", 2)
            .refused("turned(0, 2)", PLACE).then("told(5)", 1).then("told(6)", 2)
            .refused("turned(0, -1)", SIZE).then("told(5)", 1).then("told(6)", 2);
        terms("promises 12, 13: TRIES, of refused calls", "blanks(2); key(1, 1)")
            .refused("key(19, 0)", BAD).then("told(6)", 1).refused("turned(1, 0)", BAD).then("told(6)", 1);
    }

    private static void findingsEndWhatMeetsThem() {
        String shop = "blanks(1); key(1, 4); cylinder(0, 2); cylinder(0, 1); twin(0, 1); height(0, 1, 4, true); "
            + "height(1, 0, 5, true); " + "cabinet(4, 2); put(0, 0, 2); put(0, 1, 2)";
        terms("promises 16, 18: FINDINGS end what meets them", shop)
            .refused("turn(0, 2)", PLACE).then("at()", 1).then("told(8)", 2).then("told(7)", 1)
            .refused("turnAll(0, 0)", PLACE).then("at()", 1).then("told(8)", 2).then("told(7)", 1);
    }

    /** One row for each call that can meet two kinds of refusal at once, in a shop that is full of all. */
    private static void orderOfAnswers() {
        String full = "blanks(100); " + Run.times(100, "key(1, 4)") + Run.times(99, "cylinder(2, 1)") + "twin(0, 0); "
            + Run.times(12, "cabinet(0, 1)") + Run.times(2, "person()") + "lose(0); door(); takeCore(0)";
        terms("promises 2, 3: BAD, FULL, FINDINGS", full)
            .refused("cylinder(0, 19)", BAD).refused("cylinder(4, -1)", BAD).refused("cylinder(0, -1)", FULL)
            .refused("twin(99, 100)", BAD).refused("twin(99, 0)", FULL);
        terms("promises 12, 13: BAD, FULL, STATE, FINDINGS", full)
            .refused("key(19, 0)", BAD).refused("key(-1, 0)", FULL).refused("turned(0, 19)", BAD)
            .refused("turned(0, 2)", FULL);
        terms("promises 20, 21: BAD, FULL, FINDINGS", full)
            .refused("cabinet(5, -1)", BAD).refused("cabinet(0, -1)", FULL)
            .refused("put(0, 1, 100)", BAD).refused("put(0, 1, 99)", PLACE).refused("put(0, 0, 99)", STORE);
        terms("promises 4, 5, 7: BAD, KIND, NOTHING, PLACE", full)
            .refused("height(99, 1, 10, true)", BAD).refused("height(99, 1, 9, true)", KIND)
            .refused("height(0, 1, 9, true)", NOTHING).refused("height(1, 1, 9, true)", PLACE)
            .refused("heightAt(99, 1, 0)", KIND).refused("heightAt(0, 1, 0)", NOTHING)
            .refused("heightAt(1, 1, 9)", PLACE).refused("heightAt(1, 0, 9)", NOTHING).refused("putCore(99)", KIND)
            .refused("putCore(1)", STATE);
        terms("promises 26, 33: BAD, STATE", full)
            .refused("lend(0, 2)", BAD).refused("lend(0, 1)", STATE).refused("anew(1, 1, 2, 1, 9)", BAD)
            .refused("anew(1, 2, 1, 1, 9)", STATE).refused("anew(0, 2, 2, 1, 9)", STATE)
            .refused("anew(0, 2, 1, 1, 9)", NOTHING);
    }

    private static void wishesAtFirst() {
        String shop = "blanks(3); key(1, 1); key(1, 2); door(); door(); wish(1, 1, 1); key(1, 3); door()";
        terms("promise 31: OPEN, NEVER, or none (at first)", shop)
            .taken("wish(0, 0, 0)", 0).taken("wish(2, 0, 0)", 0).taken("wish(0, 2, 0)", 0).taken("wish(2, 2, 0)", 0)
            .taken("wish(1, 1, 0)", 1);
    }
}
