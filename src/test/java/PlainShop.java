import java.util.ArrayList;
import java.util.List;
import java.util.TreeSet;

/** A second way of the document, as near to its words as can be, for RandomRunsTest to compare with. */
final class PlainShop {
    static final int NONE = -1, BAD = -2, STATE = -3, FULL = -4, UNKNOWN = -5, LOST = -6;

    /** A FINDING that ends what meets it. */
    static final class Met extends RuntimeException {
        private static final long serialVersionUID = 1L;
        final int number;

        Met(int number) {
            this.number = number;
        }
    }

    static final class Row {
        final List<TreeSet<Integer>> chambers = new ArrayList<>();

        Row(int n) {
            for (int i = 0; i < n; i++) {
                chambers.add(new TreeSet<>());
            }
        }

        Row copy() {
            Row row = new Row(0);
            for (TreeSet<Integer> chamber : chambers) {
                row.chambers.add(new TreeSet<>(chamber));
            }
            return row;
        }
    }

    static final class Cyl {
        int kind;
        Row row;
        int one = NONE;
        int two = NONE;

        Cyl copy() {
            Cyl c = new Cyl();
            c.kind = kind;
            c.row = row == null ? null : row.copy();
            c.one = one;
            c.two = two;
            return c;
        }

        boolean is(int told) {
            switch (told) {
                case 0: return kind <= 3;
                case 1: return kind == 1 || kind == 2;
                default: return kind == told;
            }
        }

        int most() {
            return new int[] {1, 4, 4, 0, 0}[kind];
        }
    }

    static final class Ky {
        List<Integer> cuts = new ArrayList<>();
        int holder = NONE;
        int[] wishes = new int[40];

        Ky copy() {
            Ky k = new Ky();
            k.cuts = new ArrayList<>(cuts);
            k.holder = holder;
            k.wishes = wishes.clone();
            return k;
        }
    }

    static final class Cab {
        int kind;
        int[] places;

        Cab copy() {
            Cab c = new Cab();
            c.kind = kind;
            c.places = places.clone();
            return c;
        }
    }

    static final class All {
        List<Cyl> cyls = new ArrayList<>();
        List<Ky> keys = new ArrayList<>();
        List<Cab> cabs = new ArrayList<>();
        List<Integer> doors = new ArrayList<>();
        int persons;
        int blanks;
        Row tray;

        All copy() {
            All a = new All();
            cyls.forEach(c -> a.cyls.add(c.copy()));
            keys.forEach(k -> a.keys.add(k.copy()));
            cabs.forEach(c -> a.cabs.add(c.copy()));
            a.doors.addAll(doors);
            a.persons = persons;
            a.blanks = blanks;
            a.tray = tray == null ? null : tray.copy();
            return a;
        }
    }

    All s = new All();
    All ahead = null;
    int tries;
    int finding;
    int findings;
    int at = NONE;
    List<Integer> trace = new ArrayList<>();
    int trials;

    interface Call {
        long answer();
    }

    /** A call that names FINDINGS. */
    long names(Call call) {
        try {
            long answer = call.answer();
            if (answer != BAD && answer != STATE && answer != FULL) {
                finding = 0;
            }
            return answer;
        } catch (Met met) {
            finding = met.number;
            findings++;
            return -10 - met.number;
        }
    }

    /** A call that is a CHANGE if it is not refused and meets nothing. */
    long change(Call call) {
        All was = s.copy();
        long answer = call.answer();
        if (answer != BAD && answer != STATE && answer != FULL && answer != UNKNOWN) {
            ahead = was;
        } else {
            s = was;
        }
        return answer;
    }

    static boolean in(long x, long from, long to) {
        return x >= from && x <= to;
    }

    boolean cyl(int c) {
        return in(c, 0, s.cyls.size() - 1);
    }

    boolean ky(int k) {
        return in(k, 0, s.keys.size() - 1);
    }

    boolean dr(int d) {
        return in(d, 0, s.doors.size() - 1);
    }

    boolean cab(int c) {
        return in(c, 0, s.cabs.size() - 1);
    }

    long cylinder(int kind, int n) {
        return names(() -> change(() -> {
            if (!in(kind, 0, 3) || n > 18) {
                return BAD;
            }
            if (s.cyls.size() == 100) {
                return FULL;
            }
            if (n < 0) {
                throw new Met(5);
            }
            Cyl c = new Cyl();
            c.kind = kind;
            c.row = new Row(n);
            s.cyls.add(c);
            return s.cyls.size() - 1;
        }));
    }

    long twin(int one, int two) {
        return names(() -> change(() -> {
            if (one != NONE && !cyl(one) || two != NONE && !cyl(two)) {
                return BAD;
            }
            if (s.cyls.size() == 100) {
                return FULL;
            }
            if (one != NONE && !s.cyls.get(one).is(0) || two != NONE && !s.cyls.get(two).is(0)) {
                throw new Met(3);
            }
            Cyl c = new Cyl();
            c.kind = 4;
            c.one = one;
            c.two = two;
            s.cyls.add(c);
            return s.cyls.size() - 1;
        }));
    }

    Row rowOf(int c) {
        Cyl cyl = s.cyls.get(c);
        if (cyl.kind == 4) {
            throw new Met(3);
        }
        if (cyl.row == null) {
            throw new Met(1);
        }
        return cyl.row;
    }

    TreeSet<Integer> chamberOf(int c, int chamber) {
        Row row = rowOf(c);
        if (!in(chamber, 0, row.chambers.size() - 1)) {
            throw new Met(2);
        }
        return row.chambers.get(chamber);
    }

    long height(int c, int chamber, int h, boolean comes) {
        return names(() -> change(() -> {
            if (!cyl(c) || !in(h, 0, 9)) {
                return BAD;
            }
            TreeSet<Integer> set = chamberOf(c, chamber);
            if (comes && !set.contains(h)) {
                if (set.size() == s.cyls.get(c).most()) {
                    return FULL;
                }
                set.add(h);
            }
            if (!comes) {
                set.remove(h);
            }
            return set.size();
        }));
    }

    long heightAt(int c, int chamber, int i) {
        return names(() -> {
            if (!cyl(c)) {
                return BAD;
            }
            TreeSet<Integer> set = chamberOf(c, chamber);
            if (set.isEmpty()) {
                throw new Met(1);
            }
            if (!in(i, 0, set.size() - 1)) {
                throw new Met(2);
            }
            return new ArrayList<>(set).get(i);
        });
    }

    long takeCore(int c) {
        return names(() -> change(() -> {
            if (!cyl(c)) {
                return BAD;
            }
            if (s.cyls.get(c).kind != 2) {
                throw new Met(3);
            }
            s.tray = rowOf(c);
            s.cyls.get(c).row = null;
            return s.tray.chambers.size();
        }));
    }

    long putCore(int c) {
        return names(() -> change(() -> {
            if (!cyl(c)) {
                return BAD;
            }
            Cyl core = s.cyls.get(c);
            if (core.kind != 2) {
                throw new Met(3);
            }
            if (core.row != null) {
                return STATE;
            }
            if (s.tray == null) {
                throw new Met(1);
            }
            core.row = s.tray;
            s.tray = null;
            return core.row.chambers.size();
        }));
    }

    long kind(int c) {
        return cyl(c) ? s.cyls.get(c).kind : BAD;
    }

    long chambers(int c) {
        return names(() -> cyl(c) ? rowOf(c).chambers.size() : BAD);
    }

    int weightOf(int c) {
        Cyl cyl = s.cyls.get(c);
        if (cyl.kind == 4) {
            trace.add(7);
            int first = cyl.one == NONE ? 0 : weightOf(cyl.one);
            return first + (cyl.two == NONE ? 0 : weightOf(cyl.two));
        }
        if (cyl.kind == 2) {
            trace.add(6);
        }
        trace.add(5);
        int sum = cyl.kind == 2 ? 15 : 10;
        for (TreeSet<Integer> chamber : rowOf(c).chambers) {
            for (int h : chamber) {
                sum += h;
            }
        }
        return sum;
    }

    long weight(int c) {
        return names(() -> {
            if (!cyl(c)) {
                return BAD;
            }
            trace.clear();
            return weightOf(c);
        });
    }

    long blanks(int n) {
        return change(() -> {
            if (!in(n, 0, 100)) {
                return BAD;
            }
            if (s.blanks + n > 1000) {
                return FULL;
            }
            return s.blanks += n;
        });
    }

    long cutNew(java.util.function.Supplier<List<Integer>> cuts) {
        if (s.keys.size() == 100) {
            return FULL;
        }
        if (s.blanks == 0) {
            return STATE;
        }
        tries++;
        Ky k = new Ky();
        k.cuts = cuts.get();
        s.blanks--;
        s.keys.add(k);
        return s.keys.size() - 1;
    }

    long key(int n, long cuts) {
        return names(() -> change(() -> {
            if (n > 18 || !in(cuts, 0, 999999999999999999L)) {
                return BAD;
            }
            return cutNew(() -> {
                if (n < 0) {
                    throw new Met(5);
                }
                String figures = new StringBuilder(String.format("%018d", cuts)).reverse().substring(0, n);
                List<Integer> row = new ArrayList<>();
                for (char figure : figures.toCharArray()) {
                    row.add(figure - '0');
                }
                return row;
            });
        }));
    }

    long turned(int key, int n) {
        return names(() -> change(() -> {
            if (!ky(key) || n > 18) {
                return BAD;
            }
            return cutNew(() -> {
                if (n < 0) {
                    throw new Met(5);
                }
                List<Integer> other = s.keys.get(key).cuts;
                if (n > other.size()) {
                    throw new Met(2);
                }
                List<Integer> row = new ArrayList<>(other.subList(0, n));
                java.util.Collections.reverse(row);
                return row;
            });
        }));
    }

    long cut(int key, int i) {
        return names(() -> {
            if (!ky(key)) {
                return BAD;
            }
            if (!in(i, 0, s.keys.get(key).cuts.size() - 1)) {
                throw new Met(2);
            }
            return s.keys.get(key).cuts.get(i);
        });
    }

    long length(int key) {
        return ky(key) ? s.keys.get(key).cuts.size() : BAD;
    }

    /** Turns cuts in a cylinder; adds to the trace and sets AT. */
    boolean turnCuts(List<Integer> cuts, int c, int from) {
        at = NONE;
        if (c == NONE) {
            throw new Met(1);
        }
        Cyl cyl = s.cyls.get(c);
        if (cyl.kind == 4) {
            trace.add(4);
            return turnCuts(cuts, cyl.one, 0) && turnCuts(cuts, cyl.two, 18);
        }
        if (cyl.kind == 3) {
            trace.add(3);
            at = from;
            return false;
        }
        if (cyl.kind != 0) {
            trace.add(2);
        }
        trace.add(1);
        List<TreeSet<Integer>> chambers = rowOf(c).chambers;
        for (int i = 0; i < chambers.size(); i++) {
            if (chambers.get(i).isEmpty()) {
                continue;
            }
            if (i >= cuts.size()) {
                at = from + i;
                throw new Met(2);
            }
            if (!chambers.get(i).contains(cuts.get(i))) {
                at = from + i;
                return false;
            }
        }
        return true;
    }

    long turn(int key, int c) {
        return names(() -> {
            if (!ky(key) || !cyl(c)) {
                return BAD;
            }
            trace.clear();
            return turnCuts(s.keys.get(key).cuts, c, 0) ? 1 : 0;
        });
    }

    long opens(int key, int door) {
        return names(() -> {
            if (!ky(key) || !dr(door)) {
                return BAD;
            }
            trace.clear();
            return turnCuts(s.keys.get(key).cuts, s.doors.get(door), 0) ? 1 : 0;
        });
    }

    long turnAll(int cabinet, int key) {
        return names(() -> {
            if (!cab(cabinet) || !ky(key)) {
                return BAD;
            }
            trace.clear();
            at = NONE;
            int opened = 0;
            for (int c : s.cabs.get(cabinet).places) {
                if (!turnCuts(s.keys.get(key).cuts, c, 0)) {
                    break;
                }
                opened++;
            }
            return opened;
        });
    }

    long cabinet(int kind, int n) {
        return names(() -> change(() -> {
            if (!in(kind, 0, 4) || n > 20) {
                return BAD;
            }
            if (s.cabs.size() == 12) {
                return FULL;
            }
            if (n < 0) {
                throw new Met(5);
            }
            Cab c = new Cab();
            c.kind = kind;
            c.places = new int[n];
            java.util.Arrays.fill(c.places, NONE);
            s.cabs.add(c);
            return s.cabs.size() - 1;
        }));
    }

    long put(int cabinet, int place, int c) {
        return names(() -> change(() -> {
            if (!cab(cabinet) || c != NONE && !cyl(c)) {
                return BAD;
            }
            Cab cab = s.cabs.get(cabinet);
            if (!in(place, 0, cab.places.length - 1)) {
                throw new Met(2);
            }
            if (c != NONE && !s.cyls.get(c).is(cab.kind)) {
                throw new Met(4);
            }
            int had = cab.places[place];
            cab.places[place] = c;
            return had;
        }));
    }

    long inside(int cabinet, int place) {
        return names(() -> {
            if (!cab(cabinet)) {
                return BAD;
            }
            if (!in(place, 0, s.cabs.get(cabinet).places.length - 1)) {
                throw new Met(2);
            }
            return s.cabs.get(cabinet).places[place];
        });
    }

    long door() {
        return change(() -> {
            if (s.doors.size() == 40) {
                return FULL;
            }
            s.doors.add(NONE);
            return s.doors.size() - 1;
        });
    }

    long fit(int door, int c) {
        return change(() -> dr(door) && (c == NONE || cyl(c)) ? s.doors.set(door, c) : BAD);
    }

    long person() {
        return change(() -> s.persons == 40 ? FULL : s.persons++);
    }

    long lend(int key, int person) {
        return change(() -> {
            if (!ky(key) || !in(person, 0, s.persons - 1)) {
                return BAD;
            }
            if (s.keys.get(key).holder != NONE) {
                return STATE;
            }
            s.keys.get(key).holder = person;
            return s.keys.stream().filter(k -> k.holder == person).count();
        });
    }

    long moved(int key, boolean may, int to, long answer) {
        return change(() -> {
            if (!ky(key)) {
                return BAD;
            }
            if (!may) {
                return STATE;
            }
            s.keys.get(key).holder = to;
            return answer;
        });
    }

    int holderOf(int key) {
        return ky(key) ? s.keys.get(key).holder : BAD;
    }

    long bringBack(int key) {
        return moved(key, holderOf(key) >= 0, NONE, holderOf(key));
    }

    long lose(int key) {
        return moved(key, holderOf(key) != LOST, LOST, holderOf(key));
    }

    long found(int key) {
        return moved(key, holderOf(key) == LOST, NONE, 1);
    }

    long wish(int key, int door, int what) {
        return change(() -> {
            if (!ky(key) || !dr(door) || !in(what, 0, 2)) {
                return BAD;
            }
            int had = s.keys.get(key).wishes[door];
            s.keys.get(key).wishes[door] = what;
            return had;
        });
    }

    boolean wouldOpen(List<Integer> cuts, int door) {
        List<Integer> keptTrace = trace;
        int keptAt = at;
        trace = new ArrayList<>();
        try {
            return turnCuts(cuts, s.doors.get(door), 0);
        } catch (Met met) {
            return false;
        } finally {
            trace = keptTrace;
            at = keptAt;
        }
    }

    long refusal(int k, int d, int n) {
        if (k > s.keys.size() || d > s.doors.size()) {
            return STATE;
        }
        for (int door = 0; door < d; door++) {
            int c = s.doors.get(door);
            if (c == NONE) {
                throw new Met(1);
            }
            if (rowOf(c).chambers.size() != n || s.doors.subList(0, door).contains(c)) {
                return STATE;
            }
        }
        return 0;
    }

    long work(int k, int d, int n, int step) {
        return names(() -> {
            if (!in(k, 1, 6) || !in(d, 1, 6) || !in(n, 1, 5) || !in(step, 0, 9)) {
                return BAD;
            }
            long refused = refusal(k, d, n);
            return refused != 0 ? refused : search(NONE, k, d, n, step);
        });
    }

    long anew(int key, int k, int d, int n, int step) {
        return names(() -> {
            if (!in(k, 1, 6) || !in(d, 1, 6) || !in(n, 1, 5) || !in(step, 0, 9) || !in(key, 0, k - 1)) {
                return BAD;
            }
            if (k > s.keys.size() || d > s.doors.size()) {
                return STATE;
            }
            if (holderOf(key) != LOST || s.keys.get(key).cuts.size() != n) {
                return STATE;
            }
            long refused = refusal(k, d, n);
            return refused != 0 ? refused : search(key, k, d, n, step);
        });
    }

    /** Counts a row of numbers up, from its first number that does not stand. */
    long search(int lost, int k, int d, int n, int step) {
        int[][] wishes = new int[k][];
        List<List<Integer>> cuts = new ArrayList<>();
        List<Integer> tried = new ArrayList<>();
        for (int key = 0; key < k; key++) {
            wishes[key] = s.keys.get(key).wishes.clone();
            cuts.add(new ArrayList<>());
            if (key != lost) {
                tried.add(key);
            }
        }
        if (lost != NONE) {
            cuts.set(lost, s.keys.get(lost).cuts);
            for (int door = 0; door < d; door++) {
                wishes[lost][door] = wouldOpen(cuts.get(lost), door) ? 2 : 0;
            }
        }
        trials = 0;
        int places = tried.size() * n;
        int[] row = new int[places];
        int place = 0;
        boolean stands = places == 0 && allStands(cuts, wishes, d, n);
        while (places > 0) {
            if (row[place] > 9) {
                row[place] = 0;
                place--;
                if (place < 0) {
                    break;
                }
                row[place]++;
                continue;
            }
            if (trials == 4000) {
                return UNKNOWN;
            }
            trials++;
            int key = tried.get(place / n);
            for (int t = 0; t < tried.size(); t++) {
                List<Integer> own = new ArrayList<>();
                for (int i = t * n; i < Math.min(t * n + n, place + 1); i++) {
                    own.add(row[i]);
                }
                cuts.set(tried.get(t), own);
            }
            boolean good = oneStands(cuts, wishes, key, lost, d, n, step);
            if (good && place == places - 1) {
                good = allStands(cuts, wishes, d, n);
                stands = good;
            }
            if (stands) {
                break;
            }
            if (good) {
                place++;
                row[place] = 0;
            } else {
                row[place]++;
            }
        }
        if (!stands) {
            return 0;
        }
        ahead = s.copy();
        for (int key = 0; key < k; key++) {
            s.keys.get(key).cuts = new ArrayList<>(cuts.get(key));
        }
        for (int door = 0; door < d; door++) {
            for (int i = 0; i < n; i++) {
                TreeSet<Integer> chamber = rowOf(s.doors.get(door)).chambers.get(i);
                TreeSet<Integer> then = new TreeSet<>(heightsThen(cuts, wishes, door, i));
                chamber.clear();
                chamber.addAll(then);
            }
        }
        return 1;
    }

    TreeSet<Integer> cutsOfOpeners(List<List<Integer>> cuts, int[][] wishes, int door, int i, int upTo) {
        TreeSet<Integer> set = new TreeSet<>();
        for (int key = 0; key <= upTo; key++) {
            if (wishes[key][door] == 1) {
                set.add(cuts.get(key).get(i));
            }
        }
        return set;
    }

    TreeSet<Integer> heightsThen(List<List<Integer>> cuts, int[][] wishes, int door, int i) {
        TreeSet<Integer> set = cutsOfOpeners(cuts, wishes, door, i, cuts.size() - 1);
        return set.isEmpty() ? rowOf(s.doors.get(door)).chambers.get(i) : set;
    }

    boolean oneStands(List<List<Integer>> cuts, int[][] wishes, int key, int lost, int d, int n, int step) {
        List<Integer> own = cuts.get(key);
        int i = own.size() - 1;
        if (i > 0 && Math.abs(own.get(i) - own.get(i - 1)) > step) {
            return false;
        }
        for (int door = 0; door < d; door++) {
            int most = s.cyls.get(s.doors.get(door)).most();
            if (wishes[key][door] == 1 && cutsOfOpeners(cuts, wishes, door, i, key).size() > most) {
                return false;
            }
        }
        if (i == n - 1) {
            if (lost != NONE && cuts.get(lost).equals(own)) {
                return false;
            }
            for (int other = 0; other < key; other++) {
                if (cuts.get(other).equals(own)) {
                    return false;
                }
            }
        }
        return true;
    }

    boolean allStands(List<List<Integer>> cuts, int[][] wishes, int d, int n) {
        for (int key = 0; key < cuts.size(); key++) {
            for (int door = 0; door < d; door++) {
                boolean barred = s.cyls.get(s.doors.get(door)).kind == 3;
                for (int i = 0; i < n; i++) {
                    TreeSet<Integer> then = heightsThen(cuts, wishes, door, i);
                    barred |= !then.isEmpty() && !then.contains(cuts.get(key).get(i));
                }
                if (wishes[key][door] == 2 && !barred) {
                    return false;
                }
            }
        }
        return true;
    }

    long count(int door, int n, int step) {
        return names(() -> {
            if (!dr(door) || !in(n, 0, 18) || !in(step, 0, 9)) {
                return BAD;
            }
            int c = s.doors.get(door);
            List<Integer> halves = new ArrayList<>();
            if (c != NONE && s.cyls.get(c).kind == 4) {
                halves.add(s.cyls.get(c).one);
                halves.add(s.cyls.get(c).two);
            } else {
                halves.add(c);
            }
            for (int half : halves) {
                if (half == NONE) {
                    throw new Met(1);
                }
                rowOf(half);
            }
            Long[][] known = new Long[19][11];
            return rowsFrom(halves, 0, NONE, n, step, known);
        });
    }

    long rowsFrom(List<Integer> halves, int i, int latest, int n, int step, Long[][] known) {
        if (i == n) {
            for (int half : halves) {
                List<TreeSet<Integer>> chambers = rowOf(half).chambers;
                for (int j = n; j < chambers.size(); j++) {
                    if (!chambers.get(j).isEmpty()) {
                        return 0;
                    }
                }
                if (s.cyls.get(half).kind == 3) {
                    return 0;
                }
            }
            return 1;
        }
        if (known[i][latest + 1] == null) {
            long sum = 0;
            for (int cut = 0; cut <= 9; cut++) {
                boolean passes = latest == NONE || Math.abs(cut - latest) <= step;
                for (int half : halves) {
                    List<TreeSet<Integer>> chambers = rowOf(half).chambers;
                    passes &= i >= chambers.size() || chambers.get(i).isEmpty() || chambers.get(i).contains(cut);
                }
                sum += passes ? rowsFrom(halves, i + 1, cut, n, step, known) : 0;
            }
            known[i][latest + 1] = sum;
        }
        return known[i][latest + 1];
    }

    boolean bits(int doors) {
        for (int door = s.doors.size(); door < 31; door++) {
            if ((doors & 1 << door) != 0) {
                return false;
            }
        }
        return doors >= 0;
    }

    int reach(int key) {
        int reach = 0;
        for (int door = 0; door < Math.min(31, s.doors.size()); door++) {
            reach |= wouldOpen(s.keys.get(key).cuts, door) ? 1 << door : 0;
        }
        return reach;
    }

    long carry(int doors) {
        if (!bits(doors)) {
            return BAD;
        }
        int keys = Math.min(14, s.keys.size());
        int[] reach = new int[keys];
        int any = 0;
        for (int key = 0; key < keys; key++) {
            reach[key] = reach(key);
            any |= reach[key];
        }
        int best = NONE;
        for (int set = 0; set < 1 << keys; set++) {
            int together = 0;
            for (int key = 0; key < keys; key++) {
                together |= (set & 1 << key) != 0 ? reach[key] : 0;
            }
            boolean all = (doors & any & ~together) == 0;
            if (all && (best == NONE || Integer.bitCount(set) < Integer.bitCount(best))) {
                best = set;
            }
        }
        return best;
    }

    long closed(int doors) {
        if (!bits(doors)) {
            return BAD;
        }
        int left = doors;
        for (int key = 0; key < Math.min(14, s.keys.size()); key++) {
            left &= ~reach(key);
        }
        return left;
    }

    long endangered(int key) {
        return ky(key) ? reach(key) : BAD;
    }

    long undo() {
        if (ahead == null) {
            return STATE;
        }
        s = ahead;
        ahead = null;
        return 1;
    }

    long trace(int i) {
        return in(i, 0, Math.min(40, trace.size()) - 1) ? trace.get(i) : NONE;
    }

    long told(int what) {
        switch (what) {
            case 0: return s.cyls.size();
            case 1: return s.keys.size();
            case 2: return s.cabs.size();
            case 3: return s.doors.size();
            case 4: return s.persons;
            case 5: return s.blanks;
            case 6: return tries;
            case 7: return findings;
            case 8: return trace.size();
            case 9: return s.tray == null ? NONE : s.tray.chambers.size();
            default: return BAD;
        }
    }
}
