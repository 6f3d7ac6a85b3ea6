import java.util.ArrayList;
import java.util.List;
import java.util.Map;
import java.util.Set;
import java.util.TreeMap;
import java.util.TreeSet;

/**
 * Long runs of calls, the same ones each time, against a second program that is written word by
 * word from the document, finds everything anew at each call and shares no way of doing it.
 */
public final class ModelTests {
    private static final int NONE = -6;
    private static final int RUNS = 260;
    private static final int CALLS = 500;
    private static final int MOST_TOLD = 20;

    private static final int[] FAR = {Integer.MIN_VALUE, Integer.MIN_VALUE + 1, -1000, 144, 65536, Integer.MAX_VALUE};

    private static long state = 20240607L;

    public static void main(String[] args) {
        int wrong = 0;
        for (int run = 0; run < RUNS && wrong < MOST_TOLD; run++) {
            FloodBasins basins = new FloodBasins();
            Model model = new Model();
            int style = run % 5;
            for (int call = 0; call < CALLS; call++) {
                int[] a = nextCall(style, call);
                int got = ask(basins, a);
                int want = model.ask(a);
                if (got != want) {
                    System.out.println("run " + run + ", call " + call + ": " + text(a) + " answered " + got + ", due is " + want);
                    wrong++;
                    break;
                }
            }
        }
        System.out.println(wrong == 0 ? "all runs are as the model's" : wrong + " runs differ");
        if (wrong != 0) {
            System.exit(1);
        }
    }

    private static int pick(int least, int most) {
        state = state * 6364136223846793005L + 1442695040888963407L;
        return least + (int) ((state >>> 33) % (most - least + 1));
    }

    /** Mostly fit, now and then just beside, seldom far off. */
    private static int about(int least, int most) {
        if (pick(0, 29) > 0) {
            return pick(least, most);
        }
        return pick(0, 4) > 0 ? pick(least - 1, most + 1) : FAR[pick(0, FAR.length - 1)];
    }

    private static final String[] NAMES = {"land", "wave", "heap", "put", "mark", "pits", "dot", "bound", "basin",
        "pass", "poured", "tree", "over", "wet", "count", "image", "restore"};

    private static String text(int[] a) {
        StringBuilder text = new StringBuilder(NAMES[a[0]]).append('(');
        for (int i = 1; i < a.length; i++) {
            text.append(i == 1 ? "" : ", ").append(a[i]);
        }
        return text.append(')').toString();
    }

    private static int side = 8;
    private static int most = 9;

    /** Styles differ in how great the land is, how rough, and who sets the marks. */
    private static int[] nextCall(int style, int call) {
        if (call == 0) {
            side = style == 0 ? 4 : style == 1 ? 12 : style == 2 ? 8 : style == 3 ? 5 : 10;
            most = style == 1 ? 99 : style == 3 ? 2 : 9;
            return new int[] {0, side, style == 4 ? 12 : side};
        }
        int turn = pick(0, 99);
        if (turn < 2) {
            side = pick(1, 12);
            return new int[] {0, side, about(1, 12)};
        }
        if (turn < 6) {
            return new int[] {1, about(0, 50), about(0, 50), about(0, 50), about(1, pick(0, 1) == 0 ? 100 : most + 1)};
        }
        if (turn < 9) {
            return new int[] {2, about(0, side - 1), about(0, side - 1), about(-99, 99) / (pick(0, 1) == 0 ? 1 : 9), about(0, 50) / 5};
        }
        if (turn < 14) {
            return new int[] {3, about(0, side - 1), about(0, side - 1), about(0, most)};
        }
        if (turn < (style == 2 ? 17 : 26)) {
            int b = pick(0, 9) == 0 ? about(0, 99) : pick(0, style == 0 ? 3 : 12);
            return new int[] {4, about(0, side - 1), about(0, side - 1), b};
        }
        if (turn < 29) {
            return style == 3 ? new int[] {14, pick(2, 8)} : new int[] {5};
        }
        return nextQuestion();
    }

    private static int[] nextQuestion() {
        int turn = pick(0, 99);
        if (turn < 30) {
            return new int[] {6, about(0, side - 1), about(0, side - 1), about(0, 5)};
        }
        if (turn < 36) {
            return new int[] {7, about(0, 2), pick(0, 3) == 0 ? about(0, 2000) : about(0, 12)};
        }
        if (turn < 46) {
            return new int[] {8, about(1, pick(0, 9) == 0 ? 99 : 12), about(0, 5)};
        }
        if (turn < 54) {
            return new int[] {9, about(1, 12), about(1, 12)};
        }
        if (turn < 62) {
            return new int[] {10, about(0, 8), about(0, 3)};
        }
        if (turn < 70) {
            return new int[] {11, about(0, 15), about(0, 3)};
        }
        if (turn < 76) {
            return new int[] {12, about(0, side - 1), about(0, side - 1), about(0, side - 1), about(0, side - 1)};
        }
        if (turn < 82) {
            return new int[] {13, about(0, side - 1), about(0, side - 1), about(0, pick(0, 2) == 0 ? 99 : most), about(0, 2)};
        }
        if (turn < 96) {
            return new int[] {14, about(0, 12)};
        }
        return turn < 98 ? new int[] {15, about(0, 1)} : new int[] {16, about(0, 1)};
    }

    private static int ask(FloodBasins f, int[] a) {
        switch (a[0]) {
            case 0: return f.land(a[1], a[2]);
            case 1: return f.wave(a[1], a[2], a[3], a[4]);
            case 2: return f.heap(a[1], a[2], a[3], a[4]);
            case 3: return f.put(a[1], a[2], a[3]);
            case 4: return f.mark(a[1], a[2], a[3]);
            case 5: return f.pits();
            case 6: return f.dot(a[1], a[2], a[3]);
            case 7: return f.bound(a[1], a[2]);
            case 8: return f.basin(a[1], a[2]);
            case 9: return f.pass(a[1], a[2]);
            case 10: return f.poured(a[1], a[2]);
            case 11: return f.tree(a[1], a[2]);
            case 12: return f.over(a[1], a[2], a[3], a[4]);
            case 13: return f.wet(a[1], a[2], a[3], a[4]);
            case 14: return f.count(a[1]);
            case 15: return f.image(a[1]);
            default: return f.restore(a[1]);
        }
    }

    /** A DOT of the model. */
    private static final class Dot {
        final int x;
        final int y;
        int height;
        int mark;
        int owner;
        boolean dam;
        boolean came;
        int level;
        int turn;

        Dot(int x, int y) {
            this.x = x;
            this.y = y;
        }
    }

    private record Event(int basin, int target, int pass, int dams) { }

    private record Kept(int wide, int high, List<Integer> heights, List<Integer> marks, int kind, int bound) { }

    private static final class Model {
        int wide;
        int high;
        List<Dot> dots = new ArrayList<>();
        int kind = 0;
        int bound = 0;
        final Kept[] kept = new Kept[2];

        Model() {
            shape(8, 8);
        }

        void shape(int newWide, int newHigh) {
            wide = newWide;
            high = newHigh;
            dots = new ArrayList<>();
            for (int y = 0; y < high; y++) {
                for (int x = 0; x < wide; x++) {
                    dots.add(new Dot(x, y));
                }
            }
        }

        Dot at(int x, int y) {
            return out(x, 0, wide - 1) || out(y, 0, high - 1) ? null : dots.get(y * wide + x);
        }

        int place(Dot d) {
            return d.y * wide + d.x;
        }

        List<Dot> near(Dot d) {
            List<Dot> all = new ArrayList<>();
            for (Dot n : new Dot[] {at(d.x + 1, d.y), at(d.x, d.y + 1), at(d.x - 1, d.y), at(d.x, d.y - 1)}) {
                if (n != null) {
                    all.add(n);
                }
            }
            return all;
        }

        static boolean out(int n, int least, int most) {
            return n < least || n > most;
        }

        int ask(int[] a) {
            switch (a[0]) {
                case 0: return land(a[1], a[2]);
                case 1: return wave(a[1], a[2], a[3], a[4]);
                case 2: return heap(at(a[1], a[2]), a[3], a[4]);
                case 3: return put(at(a[1], a[2]), a[3]);
                case 4: return mark(at(a[1], a[2]), a[3]);
                case 5: return markPits();
                case 6: return dot(at(a[1], a[2]), a[3]);
                case 7: return bound(a[1], a[2]);
                case 8: return basin(a[1], a[2]);
                case 9: return passOf(a[1], a[2]);
                case 10: return told(pour(false), a[1], a[2]);
                case 11: return told(pour(true), a[1], a[2]);
                case 12: return over(at(a[1], a[2]), at(a[3], a[4]));
                case 13: return wet(at(a[1], a[2]), a[3], a[4]);
                case 14: return count(a[1]);
                case 15: return image(a[1]);
                default: return restore(a[1]);
            }
        }

        int land(int w, int h) {
            if (out(w, 1, 12) || out(h, 1, 12)) {
                return -2;
            }
            shape(w, h);
            return pits().size();
        }

        int wave(int a, int b, int c, int m) {
            if (out(a, 0, 50) || out(b, 0, 50) || out(c, 0, 50) || out(m, 1, 100)) {
                return -2;
            }
            for (Dot d : dots) {
                d.height = (a * d.x + b * d.y + c * d.x * d.y) % m;
            }
            return pits().size();
        }

        int heap(Dot peak, int n, int step) {
            if (peak == null || out(n, -99, 99) || out(step, 0, 50)) {
                return -2;
            }
            for (Dot d : dots) {
                int far = step * (Math.abs(d.x - peak.x) + Math.abs(d.y - peak.y));
                if (n >= 0 && n - far > 0) {
                    d.height += n - far;
                } else if (n < 0 && -n - far > 0) {
                    d.height -= -n - far;
                }
                if (d.height < 0) {
                    d.height = 0;
                } else if (d.height > 99) {
                    d.height = 99;
                }
            }
            return pits().size();
        }

        int put(Dot d, int n) {
            if (d == null || out(n, 0, 99)) {
                return -2;
            }
            d.height = n;
            return pits().size();
        }

        int mark(Dot d, int b) {
            if (d == null || out(b, 0, 99)) {
                return -2;
            }
            int before = d.mark;
            d.mark = b;
            return before;
        }

        /** Every DOT's flat is found by widening a set until nothing comes to it. */
        List<Set<Integer>> pits() {
            List<Set<Integer>> all = new ArrayList<>();
            for (Dot first : dots) {
                Set<Integer> flat = reach(first, first.height, first.height);
                boolean pit = true;
                for (int i : flat) {
                    for (Dot n : near(dots.get(i))) {
                        pit &= n.height >= first.height;
                    }
                }
                if (pit && !all.contains(flat)) {
                    all.add(flat);
                }
            }
            return all;
        }

        Set<Integer> reach(Dot first, int least, int most) {
            Set<Integer> all = new TreeSet<>();
            List<Dot> open = new ArrayList<>();
            open.add(first);
            while (!open.isEmpty()) {
                Dot d = open.remove(open.size() - 1);
                if (!out(d.height, least, most) && all.add(place(d))) {
                    open.addAll(near(d));
                }
            }
            return all;
        }

        int markPits() {
            List<Set<Integer>> all = pits();
            for (Dot d : dots) {
                d.mark = 0;
            }
            for (int k = 0; k < all.size(); k++) {
                for (int i : all.get(k)) {
                    dots.get(i).mark = k + 1;
                }
            }
            return all.size();
        }

        void flood() {
            List<Dot> line = new ArrayList<>();
            for (Dot d : dots) {
                d.owner = d.mark;
                d.dam = false;
                d.came = false;
                d.level = d.mark > 0 ? d.height : NONE;
                d.turn = d.mark > 0 ? 0 : NONE;
            }
            for (Dot d : dots) {
                if (d.mark > 0) {
                    comeIn(line, d);
                }
            }
            int turn = 0;
            while (!line.isEmpty()) {
                int best = 0;
                for (int i = 1; i < line.size(); i++) {
                    if (line.get(i).level < line.get(best).level) {
                        best = i;
                    }
                }
                Dot d = line.remove(best);
                d.turn = ++turn;
                Set<Integer> around = around(d);
                if (around.size() > 1) {
                    d.dam = true;
                } else {
                    d.owner = around.iterator().next();
                    comeIn(line, d);
                }
            }
        }

        void comeIn(List<Dot> line, Dot d) {
            for (Dot n : near(d)) {
                if (n.owner == 0 && !n.came) {
                    n.came = true;
                    n.level = Math.max(n.height, d.level);
                    line.add(n);
                }
            }
        }

        Set<Integer> around(Dot d) {
            Set<Integer> all = new TreeSet<>();
            for (Dot n : near(d)) {
                if (n.owner > 0) {
                    all.add(n.owner);
                }
            }
            return all;
        }

        /** Of each BASIN the PASSES to all others. */
        Map<Integer, Map<Integer, Integer>> passes() {
            Map<Integer, Map<Integer, Integer>> all = new TreeMap<>();
            for (Dot d : dots) {
                if (d.owner > 0) {
                    all.putIfAbsent(d.owner, new TreeMap<>());
                }
            }
            for (Dot d : dots) {
                if (d.dam) {
                    for (int one : around(d)) {
                        for (int other : around(d)) {
                            if (one != other) {
                                all.get(one).merge(other, d.height, Math::min);
                            }
                        }
                    }
                }
                for (Dot n : near(d)) {
                    if (d.owner > 0 && n.owner > 0 && d.owner != n.owner) {
                        all.get(d.owner).merge(n.owner, Math.max(d.height, n.height), Math::min);
                    }
                }
            }
            return all;
        }

        static int wayOut(Map<Integer, Integer> ways) {
            int best = NONE;
            for (int other : ways.keySet()) {
                if (best == NONE || ways.get(other) < ways.get(best)) {
                    best = other;
                }
            }
            return best;
        }

        int size(int b, int k, Map<Integer, Integer> ways) {
            int out = wayOut(ways);
            int many = 0;
            int least = 1000;
            int water = 0;
            for (Dot d : dots) {
                if (d.owner == b) {
                    many++;
                    least = Math.min(least, d.height);
                    water += out == NONE ? 0 : Math.max(0, ways.get(out) - d.height);
                }
            }
            if (k == 0) {
                return many;
            }
            if (k == 3) {
                return least;
            }
            return out == NONE ? 0 : k == 1 ? Math.max(0, ways.get(out) - least) : water;
        }

        List<Event> pour(boolean tree) {
            flood();
            List<Event> events = new ArrayList<>();
            while (true) {
                Map<Integer, Map<Integer, Integer>> passes = passes();
                int next = NONE;
                int least = 1000;
                for (int b : passes.keySet()) {
                    int out = wayOut(passes.get(b));
                    if (out == NONE || !tree && size(b, kind, passes.get(b)) >= bound) {
                        continue;
                    }
                    if (passes.get(b).get(out) < least) {
                        least = passes.get(b).get(out);
                        next = b;
                    }
                }
                if (next == NONE) {
                    return events;
                }
                int target = wayOut(passes.get(next));
                events.add(new Event(next, target, least, pourOne(next, target)));
            }
        }

        int pourOne(int basin, int target) {
            for (Dot d : dots) {
                if (d.owner == basin) {
                    d.owner = target;
                }
            }
            List<Dot> going = new ArrayList<>();
            List<Integer> whose = new ArrayList<>();
            for (Dot d : dots) {
                if (d.dam && around(d).size() == 1) {
                    going.add(d);
                    whose.add(around(d).iterator().next());
                }
            }
            for (int i = 0; i < going.size(); i++) {
                going.get(i).dam = false;
                going.get(i).owner = whose.get(i);
            }
            return going.size();
        }

        static int whose(Dot d) {
            return d.dam ? 0 : d.owner > 0 ? d.owner : NONE;
        }

        int dot(Dot d, int what) {
            if (d == null || out(what, 0, 5)) {
                return -2;
            }
            if (what == 5) {
                pour(false);
            } else {
                flood();
            }
            int[] all = {d.height, d.mark, whose(d), d.level, d.turn, whose(d)};
            return all[what];
        }

        int bound(int k, int n) {
            if (out(k, 0, 2) || out(n, 0, 2000)) {
                return -2;
            }
            kind = k;
            bound = n;
            return pour(false).size();
        }

        int basin(int b, int what) {
            pour(false);
            Map<Integer, Integer> ways = passes().get(b);
            if (ways == null) {
                return -1;
            }
            if (out(what, 0, 5)) {
                return -2;
            }
            int out = wayOut(ways);
            return what < 4 ? size(b, what, ways) : what == 5 || out == NONE ? out : ways.get(out);
        }

        int passOf(int one, int other) {
            pour(false);
            Map<Integer, Map<Integer, Integer>> passes = passes();
            if (!passes.containsKey(one) || !passes.containsKey(other)) {
                return -1;
            }
            return one == other ? -2 : passes.get(one).getOrDefault(other, NONE);
        }

        static int told(List<Event> events, int i, int what) {
            if (out(what, 0, 3)) {
                return -2;
            }
            if (out(i, 0, events.size() - 1)) {
                return NONE;
            }
            Event e = events.get(i);
            return new int[] {e.basin(), e.target(), e.pass(), e.dams()}[what];
        }

        int over(Dot from, Dot to) {
            if (from == null || to == null) {
                return -2;
            }
            for (int level = from.height; level < 100; level++) {
                if (reach(from, 0, level).contains(place(to))) {
                    return level;
                }
            }
            return NONE;
        }

        int wet(Dot d, int level, int what) {
            if (d == null || out(level, 0, 99) || out(what, 0, 2)) {
                return -2;
            }
            Set<Integer> under = reach(d, 0, level);
            int water = 0;
            int least = 1000;
            for (int i : under) {
                water += level - dots.get(i).height;
                for (Dot n : near(dots.get(i))) {
                    if (!under.contains(place(n))) {
                        least = Math.min(least, n.height);
                    }
                }
            }
            return what == 0 ? under.size() : what == 1 ? water : least == 1000 ? NONE : least;
        }

        int count(int what) {
            if (out(what, 0, 12)) {
                return -2;
            }
            Set<Integer> basins = new TreeSet<>();
            int marks = 0;
            int dams = 0;
            int level = NONE;
            int tree = what == 11 ? pour(true).size() : 0;
            if (what == 5 || what == 7) {
                pour(false);
            } else {
                flood();
            }
            for (Dot d : dots) {
                marks += d.mark > 0 ? 1 : 0;
                dams += d.dam ? 1 : 0;
                level = Math.max(level, d.level);
                if (d.owner > 0) {
                    basins.add(d.owner);
                }
            }
            int images = (kept[0] == null ? 0 : 1) + (kept[1] == null ? 0 : 2);
            return new int[] {wide, high, what == 2 ? pits().size() : 0, marks, basins.size(), basins.size(), dams, dams,
                level, kind, bound, tree, images}[what];
        }

        int image(int k) {
            if (out(k, 0, 1)) {
                return -2;
            }
            List<Integer> heights = new ArrayList<>();
            List<Integer> marks = new ArrayList<>();
            for (Dot d : dots) {
                heights.add(d.height);
                marks.add(d.mark);
            }
            kept[k] = new Kept(wide, high, heights, marks, kind, bound);
            return 1;
        }

        int restore(int k) {
            if (out(k, 0, 1)) {
                return -2;
            }
            if (kept[k] == null) {
                return -3;
            }
            shape(kept[k].wide(), kept[k].high());
            for (int i = 0; i < dots.size(); i++) {
                dots.get(i).height = kept[k].heights().get(i);
                dots.get(i).mark = kept[k].marks().get(i);
            }
            kind = kept[k].kind();
            bound = kept[k].bound();
            return 1;
        }
    }
}
