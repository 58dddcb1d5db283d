import java.util.ArrayDeque;
import java.util.ArrayList;
import java.util.Arrays;
import java.util.HashMap;
import java.util.List;
import java.util.Map;
import java.util.TreeSet;
import java.util.regex.Matcher;
import java.util.regex.Pattern;

/** The document once more, as plainly and slowly as can be: every row is walked, one by one. */
final class Model {
    /** What a text has told. */
    private static final class Told {
        int wide = 4, high = 3, law = 0;
        boolean lawTold = false;
        final TreeSet<Integer> walls = new TreeSet<>(), doors = new TreeSet<>();
        final List<int[]> lamps = new ArrayList<>(), people = new ArrayList<>();
        final Map<Integer, boolean[]> lightOf = new HashMap<>(), leaversOf = new HashMap<>();
    }

    private static final class Image {
        final List<int[]> rows, seen;

        Image(List<int[]> rows, List<int[]> seen) {
            this.rows = new ArrayList<>(rows);
            this.seen = new ArrayList<>(seen);
        }
    }

    /** What is done with each whole row. */
    private interface Walk {
        void row(List<int[]> row);
    }

    private static final class Fault extends Exception {
        private static final long serialVersionUID = 1L;
        final int place;

        Fault(int place) {
            this.place = place;
        }
    }

    private final StringBuilder text = new StringBuilder();
    private Told told = new Told();
    private List<int[]> gone = new ArrayList<>(), seen = new ArrayList<>();
    private final Image[] images = new Image[2];
    private long trace = 0;

    // ---- the hall

    int type(long v, int n) {
        if (n < 1 || n > 8) return -1;
        if (text.length() + n > 300) return -3;
        for (int i = n - 1; i >= 0; i--) text.append((char) ((v >>> (8 * i)) & 255));
        return text.length();
    }

    int clear() {
        int had = text.length();
        text.setLength(0);
        return had;
    }

    int hall() {
        Told fresh = new Told();
        int items;
        try {
            items = read(fresh);
        } catch (Fault f) {
            return -10 - f.place;
        }
        told = fresh;
        text.setLength(0);
        gone.clear();
        seen.clear();
        Arrays.fill(images, null);
        return items;
    }

    private int read(Told t) throws Fault {
        List<String> tokens = new ArrayList<>();
        List<Integer> places = new ArrayList<>();
        Matcher m = Pattern.compile("[a-z]+|[0-9]+|[^ ]", Pattern.DOTALL).matcher(text);
        while (m.find()) {
            tokens.add(m.group());
            places.add(m.start());
        }
        tokens.add("");
        places.add(text.length());
        int at = 0, items = 0;
        while (!tokens.get(at).isEmpty()) {
            at = item(t, tokens, places, at, items);
            items++;
        }
        return items;
    }

    private int item(Told t, List<String> tokens, List<Integer> places, int at, int items) throws Fault {
        String word = tokens.get(at);
        boolean behind = !t.doors.isEmpty() || !t.lamps.isEmpty() || !t.people.isEmpty();
        if (!List.of("hall", "wall", "door", "lamp", "person", "law").contains(word)
                || word.equals("hall") && items > 0 || word.equals("wall") && behind
                || word.equals("lamp") && t.lamps.size() == 6 || word.equals("person") && t.people.size() == 6
                || word.equals("law") && t.lawTold) {
            throw new Fault(places.get(at));
        }
        int[][] ranges = {{0, t.wide - 1}, {0, t.high - 1}};
        if (word.equals("hall")) ranges = new int[][] {{1, 4}, {1, 3}};
        if (word.equals("lamp")) ranges = new int[][] {ranges[0], ranges[1], {0, 9}};
        if (word.equals("person")) ranges = new int[][] {ranges[0], ranges[1], {0, 9}, {0, 1}};
        if (word.equals("law")) ranges = new int[][] {{0, 1}};
        int[] got = new int[ranges.length];
        for (int i = 0; i < ranges.length; i++) {
            String token = tokens.get(at + 1 + i);
            if (!token.matches("0|[1-9][0-9]?")) throw new Fault(places.get(at + 1 + i));
            got[i] = Integer.parseInt(token);
            boolean onWall = i == 1 && List.of("door", "lamp", "person").contains(word)
                    && t.walls.contains(t.wide * got[1] + got[0]);
            if (got[i] < ranges[i][0] || got[i] > ranges[i][1] || onWall) throw new Fault(places.get(at + 1 + i));
        }
        int end = at + 1 + ranges.length;
        if (!tokens.get(end).equals(";")) throw new Fault(places.get(end));
        take(t, word, got);
        return end + 1;
    }

    private static void take(Told t, String word, int[] got) {
        if (word.equals("hall")) {
            t.wide = got[0];
            t.high = got[1];
        } else if (word.equals("law")) {
            t.law = got[0];
            t.lawTold = true;
        } else {
            int cell = t.wide * got[1] + got[0];
            if (word.equals("wall")) t.walls.add(cell);
            if (word.equals("door")) t.doors.add(cell);
            if (word.equals("lamp")) t.lamps.add(new int[] {cell, got[2]});
            if (word.equals("person")) t.people.add(new int[] {cell, got[2], got[3]});
        }
    }

    private boolean isCell(int c) {
        return c >= 0 && c < told.wide * told.high;
    }

    private int allLamps() {
        return (1 << told.lamps.size()) - 1;
    }

    private int litNow() {
        int lit = allLamps();
        for (int[] step : gone) lit &= ~(1 << step[1]);
        return lit;
    }

    private List<Integer> thereNow() {
        List<Integer> there = new ArrayList<>();
        for (int p = 0; p < told.people.size(); p++) {
            if (place(p) < 0) there.add(p);
        }
        return there;
    }

    private int place(int p) {
        for (int i = 0; i < gone.size(); i++) {
            if (gone.get(i)[0] == p) return i;
        }
        return -9;
    }

    private List<Integer> beside(Told t, int c) {
        List<Integer> found = new ArrayList<>();
        int x = c % t.wide, y = c / t.wide;
        int[][] steps = {{x - 1, y}, {x + 1, y}, {x, y - 1}, {x, y + 1}};
        for (int[] s : steps) {
            int cell = t.wide * s[1] + s[0];
            if (s[0] >= 0 && s[0] < t.wide && s[1] >= 0 && s[1] < t.high && !t.walls.contains(cell)) found.add(cell);
        }
        return found;
    }

    private int[] stepsFrom(Told t, int c) {
        int[] steps = new int[t.wide * t.high];
        Arrays.fill(steps, 1000);
        steps[c] = 0;
        ArrayDeque<Integer> queue = new ArrayDeque<>(List.of(c));
        while (!queue.isEmpty()) {
            int at = queue.remove();
            for (int to : beside(t, at)) {
                if (steps[to] == 1000) {
                    steps[to] = steps[at] + 1;
                    queue.add(to);
                }
            }
        }
        return steps;
    }

    private boolean[] light(Told t, int lit) {
        return t.lightOf.computeIfAbsent(lit, set -> {
            boolean[] light = new boolean[t.wide * t.high];
            for (int l = 0; l < t.lamps.size(); l++) {
                int[] steps = stepsFrom(t, t.lamps.get(l)[0]);
                for (int c = 0; c < steps.length; c++) {
                    if ((set >> l & 1) == 1 && steps[c] <= t.lamps.get(l)[1]) light[c] = true;
                }
            }
            return light;
        });
    }

    private boolean canLeave(Told t, int p, int lit) {
        return t.leaversOf.computeIfAbsent(lit, set -> {
            boolean[] can = new boolean[t.people.size()];
            for (int i = 0; i < can.length; i++) {
                can[i] = set != 0 && out(t, t.people.get(i)[0], light(t, set), new TreeSet<>());
            }
            return can;
        })[p];
    }

    private boolean out(Told t, int c, boolean[] light, TreeSet<Integer> been) {
        if (!light[c] || !been.add(c)) return false;
        if (t.law == 0 || t.doors.contains(c)) return true;
        for (int to : beside(t, c)) {
            if (out(t, to, light, been)) return true;
        }
        return false;
    }

    int cell(int c, int what) {
        if (!isCell(c) || what < 0 || what > 2) return -1;
        boolean is = what == 0 ? told.walls.contains(c) : what == 1 ? told.doors.contains(c) : light(told, litNow())[c];
        return is ? 1 : 0;
    }

    int lamp(int l, int what) {
        if (l < 0 || l >= told.lamps.size() || what < 0 || what > 3) return -1;
        if (what < 2) return told.lamps.get(l)[what];
        if (what == 2) return litNow() >> l & 1;
        int bits = 0;
        boolean[] light = light(told, 1 << l);
        for (int c = 0; c < light.length; c++) bits |= light[c] ? 1 << c : 0;
        return bits;
    }

    int person(int p, int what) {
        if (p < 0 || p >= told.people.size() || what < 0 || what > 3) return -1;
        return what < 3 ? told.people.get(p)[what] : place(p);
    }

    // ---- leaving

    int can(int p) {
        if (p < 0 || p >= told.people.size()) return -1;
        if (place(p) >= 0) return -2;
        return canLeave(told, p, litNow()) ? 1 : 0;
    }

    int leaves(int p, int l) {
        if (p < 0 || p >= told.people.size() || l < 0 || l >= told.lamps.size()) return -1;
        if (can(p) != 1 || (litNow() >> l & 1) == 0) return -2;
        gone.add(new int[] {p, l});
        return gone.size();
    }

    int undo() {
        if (gone.isEmpty()) return -2;
        gone.remove(gone.size() - 1);
        return gone.size();
    }

    // ---- what can be

    /** Walks all rows that can't go on, or (all) those in which all leave; first people, then lamps. */
    private void walk(Told t, List<Integer> there, int lit, List<int[]> row, boolean all, Walk walk) {
        boolean further = false;
        for (int i = 0; i < there.size(); i++) {
            if (!canLeave(t, there.get(i), lit)) continue;
            List<Integer> rest = new ArrayList<>(there);
            rest.remove(i);
            for (int l = 0; l < t.lamps.size(); l++) {
                if ((lit >> l & 1) == 0) continue;
                further = true;
                row.add(new int[] {there.get(i), l});
                walk(t, rest, lit & ~(1 << l), row, all, walk);
                row.remove(row.size() - 1);
            }
        }
        if (all ? there.isEmpty() : !further) walk.row(row);
    }

    private List<int[]> longest(Told t, List<Integer> there, int lit) {
        List<List<int[]>> best = new ArrayList<>();
        best.add(new ArrayList<>());
        walk(t, there, lit, new ArrayList<>(), false, row -> {
            if (row.size() > best.get(0).size()) best.set(0, new ArrayList<>(row));
        });
        return best.get(0);
    }

    int most() {
        return longest(told, thereNow(), litNow()).size();
    }

    int order(int k, int what) {
        if (k < 0 || what < 0 || what > 1) return -1;
        List<int[]> row = longest(told, thereNow(), litNow());
        return k < row.size() ? row.get(k)[what] : -5;
    }

    int rows() {
        int[] found = {0};
        walk(told, thereNow(), litNow(), new ArrayList<>(), true, row -> found[0]++);
        return found[0];
    }

    int bar() {
        int most = most(), lit = litNow(), best = -9;
        if (most == 0) return -9;
        for (int out = 1; out < 64; out++) {
            if ((out & lit) != out) continue;
            boolean fewer = best == -9 || Integer.bitCount(out) < Integer.bitCount(best);
            if (fewer && longest(told, thereNow(), lit & ~out).size() < most) best = out;
        }
        return best;
    }

    int grief() {
        int[] least = {Integer.MAX_VALUE};
        walk(told, thereNow(), litNow(), new ArrayList<>(), true, row -> {
            int sum = 0;
            for (int i = 0; i < row.size(); i++) {
                sum += Math.abs(told.people.get(row.get(i)[0])[1] - (gone.size() + i));
            }
            least[0] = Math.min(least[0], sum);
        });
        return least[0] == Integer.MAX_VALUE ? -9 : least[0];
    }

    int game() {
        return wins(thereNow(), litNow(), 0) ? 0 : 1;
    }

    private boolean wins(List<Integer> there, int lit, int side) {
        for (int i = 0; i < there.size(); i++) {
            int p = there.get(i);
            if (told.people.get(p)[2] != side || !canLeave(told, p, lit)) continue;
            List<Integer> rest = new ArrayList<>(there);
            rest.remove(i);
            for (int l = 0; l < told.lamps.size(); l++) {
                if ((lit >> l & 1) == 1 && !wins(rest, lit & ~(1 << l), 1 - side)) return true;
            }
        }
        return false;
    }

    int worth(int c, int reach) {
        if (!isCell(c) || told.walls.contains(c) || reach < 0 || reach > 9) return -1;
        Told more = new Told();
        more.wide = told.wide;
        more.high = told.high;
        more.law = told.law;
        more.walls.addAll(told.walls);
        more.doors.addAll(told.doors);
        more.lamps.addAll(told.lamps);
        more.people.addAll(told.people);
        more.lamps.add(new int[] {c, reach});
        int lit = litNow() | 1 << told.lamps.size();
        return longest(more, thereNow(), lit).size() - most();
    }

    // ---- what was seen

    int saw(int after, int c, int light) {
        if (after < 0 || after > 6 || !isCell(c) || told.walls.contains(c) || light < 0 || light > 1) return -1;
        if (seen.size() == 8) return -3;
        seen.add(new int[] {after, c, light});
        return seen.size();
    }

    int forget() {
        int had = seen.size();
        seen.clear();
        return had;
    }

    private void walkFitting(Walk walk) {
        List<Integer> all = new ArrayList<>();
        for (int p = 0; p < told.people.size(); p++) all.add(p);
        walk(told, all, allLamps(), new ArrayList<>(), true, row -> {
            for (int[] s : seen) {
                if (s[0] > row.size()) return;
                int lit = allLamps();
                for (int i = 0; i < s[0]; i++) lit &= ~(1 << row.get(i)[1]);
                if (light(told, lit)[s[1]] != (s[2] == 1)) return;
            }
            walk.row(row);
        });
    }

    int fits() {
        int[] found = {0};
        walkFitting(row -> found[0]++);
        return found[0];
    }

    int who(int l) {
        if (l < 0 || l >= told.lamps.size()) return -1;
        int[] bits = {0};
        walkFitting(row -> {
            for (int[] step : row) bits[0] |= step[1] == l ? 1 << step[0] : 0;
        });
        return bits[0];
    }

    // ---- kinds, images

    int mark(int kind, int p) {
        if (kind < 0 || kind > 5 || p < 0 || p >= told.people.size()) return -1000000;
        int[] one = told.people.get(p);
        int left = gone.size(), lit = Integer.bitCount(litNow());
        trace += new long[] {1, 11, 101, 1011, 10101, 100001}[kind];
        return new int[] {one[1], one[1] + left, one[1] + lit, 2 * (one[1] + left), one[1] + lit - one[0],
            one[1] + one[2]}[kind];
    }

    int keep(int image) {
        if (image < 0 || image > 1) return -1;
        images[image] = new Image(gone, seen);
        return gone.size();
    }

    int back(int image) {
        if (image < 0 || image > 1) return -1;
        if (images[image] == null) return -2;
        gone = new ArrayList<>(images[image].rows);
        seen = new ArrayList<>(images[image].seen);
        return gone.size();
    }

    int count(int what) {
        int[] counts = {told.wide * told.high, told.lamps.size(), told.people.size(), Integer.bitCount(litNow()),
            gone.size(), told.law, seen.size(), text.length()};
        return what < 0 || what > 7 ? -1 : counts[what];
    }

    long trace() {
        return trace;
    }
}
