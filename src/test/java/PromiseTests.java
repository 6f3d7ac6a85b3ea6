import java.util.ArrayList;
import java.util.List;

/** Each promise of the document with ordinary inputs, its edges and wrong inputs, worked out by hand. */
public final class PromiseTests {
    private static final int UNKNOWN = -1;
    private static final int OUTSIDE = -2;
    private static final int STATE = -3;
    private static final int NONE = -6;
    private static final int[] FAR = {Integer.MIN_VALUE, Integer.MIN_VALUE + 1, Integer.MAX_VALUE};

    private static int wrong = 0;

    public static void main(String[] args) {
        promise1NewObject();
        promise2Land();
        promise3Wave();
        promise4Heap();
        promise5Put();
        promise6Mark();
        promise7Pits();
        promise8DotOrder();
        promise8DotLevels();
        promise8DotDamsAndDry();
        promise9Bound();
        promise10Basin();
        promise10BasinBelowItsPass();
        promise11Pass();
        promise12Poured();
        promise13Tree();
        promise14Over();
        promise15Wet();
        promise16Count();
        promise17And18Images();
        refusedCallsChangeNothing();
        System.out.println(wrong == 0 ? "all promises hold" : wrong + " answers are not as due");
        if (wrong != 0) {
            System.exit(1);
        }
    }

    private static void due(String label, int got, int want) {
        if (got != want) {
            wrong++;
            System.out.println(label + " answered " + got + ", due is " + want);
        }
    }

    private static FloodBasins rowOf(int... heights) {
        FloodBasins basins = new FloodBasins();
        basins.land(heights.length, 1);
        for (int x = 0; x < heights.length; x++) {
            basins.put(x, 0, heights[x]);
        }
        return basins;
    }

    private static FloodBasins landOf(int[]... rows) {
        FloodBasins basins = new FloodBasins();
        basins.land(rows[0].length, rows.length);
        for (int y = 0; y < rows.length; y++) {
            for (int x = 0; x < rows[y].length; x++) {
                basins.put(x, y, rows[y][x]);
            }
        }
        return basins;
    }

    private static void dueRow(String label, FloodBasins basins, int y, int what, int... wants) {
        for (int x = 0; x < wants.length; x++) {
            due(label + " dot(" + x + ", " + y + ", " + what + ")", basins.dot(x, y, what), wants[x]);
        }
    }

    private static void dueEvents(String label, FloodBasins basins, boolean tree, int[]... events) {
        for (int i = 0; i < events.length; i++) {
            for (int what = 0; what < 4; what++) {
                int got = tree ? basins.tree(i, what) : basins.poured(i, what);
                due(label + " (" + i + ", " + what + ")", got, events[i][what]);
            }
        }
        for (int what = 0; what < 4; what++) {
            int after = tree ? basins.tree(events.length, what) : basins.poured(events.length, what);
            due(label + " after the last, " + what, after, NONE);
        }
    }

    private static void promise1NewObject() {
        FloodBasins basins = new FloodBasins();
        due("1 WIDE", basins.count(0), 8);
        due("1 HIGH", basins.count(1), 8);
        due("1 PITS", basins.count(2), 1);
        due("1 MARKS", basins.count(3), 0);
        due("1 KIND", basins.count(9), 0);
        due("1 BOUND", basins.count(10), 0);
        due("1 IMAGES", basins.count(12), 0);
        for (int y = 0; y < 8; y++) {
            dueRow("1", basins, y, 0, 0, 0, 0, 0, 0, 0, 0, 0);
            dueRow("1", basins, y, 1, 0, 0, 0, 0, 0, 0, 0, 0);
        }
        due("1 first IMAGE", basins.restore(0), STATE);
        due("1 second IMAGE", basins.restore(1), STATE);
        FloodBasins other = new FloodBasins();
        basins.put(3, 3, 5);
        basins.mark(3, 3, 5);
        due("1 objects share no HEIGHT", other.dot(3, 3, 0), 0);
        due("1 objects share no MARK", other.dot(3, 3, 1), 0);
    }

    private static void promise2Land() {
        FloodBasins basins = rowOf(1, 2, 0);
        basins.mark(1, 0, 4);
        basins.bound(2, 30);
        basins.image(1);
        due("2 land(12, 12)", basins.land(12, 12), 1);
        due("2 WIDE", basins.count(0), 12);
        due("2 HIGH", basins.count(1), 12);
        due("2 MARKS", basins.count(3), 0);
        for (int y = 0; y < 12; y++) {
            dueRow("2", basins, y, 0, new int[12]);
        }
        due("2 last DOT", basins.dot(11, 11, 0), 0);
        due("2 no DOT", basins.dot(12, 11, 0), OUTSIDE);
        due("2 KIND stays", basins.count(9), 2);
        due("2 BOUND stays", basins.count(10), 30);
        due("2 IMAGE stays", basins.count(12), 2);
        basins.put(11, 11, 9);
        due("2 land(1, 1)", basins.land(1, 1), 1);
        due("2 the one DOT", basins.dot(0, 0, 0), 0);
        due("2 land(3, 2)", basins.land(3, 2), 1);
        due("2 (2, 1)", basins.dot(2, 1, 0), 0);
        due("2 (1, 2)", basins.dot(1, 2, 0), OUTSIDE);
        for (int bad : new int[] {0, -1, 13, Integer.MIN_VALUE, Integer.MAX_VALUE}) {
            due("2 wide " + bad, basins.land(bad, 5), OUTSIDE);
            due("2 high " + bad, basins.land(5, bad), OUTSIDE);
        }
        due("2 refused: WIDE", basins.count(0), 3);
        due("2 refused: HIGH", basins.count(1), 2);
    }

    private static void promise3Wave() {
        FloodBasins basins = new FloodBasins();
        basins.land(4, 3);
        basins.mark(2, 2, 9);
        // 2x + 3y + xy: 0 2 4 6 / 3 6 9 12 / 6 10 14 18, by 7.
        due("3 wave(2, 3, 1, 7)", basins.wave(2, 3, 1, 7), 2);
        dueRow("3", basins, 0, 0, 0, 2, 4, 6);
        dueRow("3", basins, 1, 0, 3, 6, 2, 5);
        dueRow("3", basins, 2, 0, 6, 3, 0, 4);
        due("3 MARK stays", basins.dot(2, 2, 1), 9);
        basins.land(12, 12);
        basins.wave(50, 50, 50, 100);
        due("3 (11, 11)", basins.dot(11, 11, 0), 50);
        due("3 (1, 0)", basins.dot(1, 0, 0), 50);
        basins.wave(9, 0, 0, 100);
        due("3 (11, 0)", basins.dot(11, 0, 0), 99);
        due("3 by one", basins.wave(50, 49, 48, 1), 1);
        due("3 by one (11, 11)", basins.dot(11, 11, 0), 0);
        due("3 all zero", basins.wave(0, 0, 0, 100), 1);
        due("3 PITS of stripes", basins.wave(1, 0, 0, 2), 6);
        for (int bad : new int[] {-1, 51, Integer.MIN_VALUE, Integer.MAX_VALUE}) {
            due("3 a " + bad, basins.wave(bad, 0, 0, 1), OUTSIDE);
            due("3 b " + bad, basins.wave(0, bad, 0, 1), OUTSIDE);
            due("3 c " + bad, basins.wave(0, 0, bad, 1), OUTSIDE);
        }
        for (int bad : new int[] {0, -1, 101, Integer.MIN_VALUE, Integer.MAX_VALUE}) {
            due("3 m " + bad, basins.wave(0, 0, 0, bad), OUTSIDE);
        }
        due("3 refused: PITS", basins.count(2), 6);
    }

    private static void promise4Heap() {
        FloodBasins basins = new FloodBasins();
        basins.land(4, 2);
        basins.mark(3, 1, 2);
        due("4 heap(1, 0, 5, 2)", basins.heap(1, 0, 5, 2), 2);
        dueRow("4", basins, 0, 0, 3, 5, 3, 1);
        dueRow("4", basins, 1, 0, 1, 3, 1, 0);
        due("4 MARK stays", basins.dot(3, 1, 1), 2);
        due("4 heap(2, 0, -4, 1)", basins.heap(2, 0, -4, 1), 2);
        dueRow("4 less", basins, 0, 0, 1, 2, 0, 0);
        dueRow("4 less", basins, 1, 0, 0, 1, 0, 0);
        due("4 of 0", basins.heap(0, 0, 0, 0), 2);
        dueRow("4 of 0", basins, 0, 0, 1, 2, 0, 0);
        basins.heap(0, 0, 98, 0);
        dueRow("4 step 0", basins, 0, 0, 99, 99, 98, 98);
        due("4 all 99", basins.heap(3, 1, 99, 0), 1);
        dueRow("4 all 99", basins, 1, 0, 99, 99, 99, 99);
        basins.heap(0, 0, -99, 50);
        dueRow("4 step 50", basins, 0, 0, 0, 50, 99, 99);
        dueRow("4 step 50", basins, 1, 0, 50, 99, 99, 99);
        for (int bad : FAR) {
            due("4 x " + bad, basins.heap(bad, 0, 1, 1), OUTSIDE);
            due("4 y " + bad, basins.heap(0, bad, 1, 1), OUTSIDE);
            due("4 n " + bad, basins.heap(0, 0, bad, 1), OUTSIDE);
            due("4 step " + bad, basins.heap(0, 0, 1, bad), OUTSIDE);
        }
        due("4 x 4", basins.heap(4, 0, 1, 1), OUTSIDE);
        due("4 y 2", basins.heap(0, 2, 1, 1), OUTSIDE);
        due("4 x -1", basins.heap(-1, 0, 1, 1), OUTSIDE);
        due("4 y -1", basins.heap(0, -1, 1, 1), OUTSIDE);
        due("4 n 100", basins.heap(0, 0, 100, 1), OUTSIDE);
        due("4 n -100", basins.heap(0, 0, -100, 1), OUTSIDE);
        due("4 step -1", basins.heap(0, 0, 1, -1), OUTSIDE);
        due("4 step 51", basins.heap(0, 0, 1, 51), OUTSIDE);
        dueRow("4 refused", basins, 0, 0, 0, 50, 99, 99);
    }

    private static void promise5Put() {
        FloodBasins basins = new FloodBasins();
        basins.land(3, 2);
        basins.mark(2, 1, 6);
        due("5 put(1, 0, 99)", basins.put(1, 0, 99), 1);
        due("5 put(1, 1, 1)", basins.put(1, 1, 1), 2);
        dueRow("5", basins, 0, 0, 0, 99, 0);
        dueRow("5", basins, 1, 0, 0, 1, 0);
        due("5 put(1, 1, 0)", basins.put(1, 1, 0), 1);
        due("5 (1, 1)", basins.dot(1, 1, 0), 0);
        due("5 MARK stays", basins.dot(2, 1, 1), 6);
        for (int bad : new int[] {-1, 100, Integer.MIN_VALUE, Integer.MAX_VALUE}) {
            due("5 n " + bad, basins.put(0, 0, bad), OUTSIDE);
            due("5 x " + bad, basins.put(bad, 0, 1), OUTSIDE);
            due("5 y " + bad, basins.put(0, bad, 1), OUTSIDE);
        }
        due("5 x 3", basins.put(3, 0, 1), OUTSIDE);
        due("5 y 2", basins.put(0, 2, 1), OUTSIDE);
        dueRow("5 refused", basins, 0, 0, 0, 99, 0);
    }

    private static void promise6Mark() {
        FloodBasins basins = new FloodBasins();
        basins.land(3, 2);
        due("6 mark(2, 1, 99)", basins.mark(2, 1, 99), 0);
        due("6 mark(2, 1, 1)", basins.mark(2, 1, 1), 99);
        due("6 mark(2, 1, 1) again", basins.mark(2, 1, 1), 1);
        due("6 (2, 1)", basins.dot(2, 1, 1), 1);
        due("6 (1, 1)", basins.dot(1, 1, 1), 0);
        due("6 flooded", basins.dot(0, 0, 2), 1);
        due("6 mark(2, 1, 0)", basins.mark(2, 1, 0), 1);
        due("6 none", basins.dot(2, 1, 1), 0);
        due("6 dry", basins.dot(0, 0, 2), NONE);
        for (int bad : new int[] {-1, 100, Integer.MIN_VALUE, Integer.MAX_VALUE}) {
            due("6 b " + bad, basins.mark(0, 0, bad), OUTSIDE);
            due("6 x " + bad, basins.mark(bad, 0, 1), OUTSIDE);
            due("6 y " + bad, basins.mark(0, bad, 1), OUTSIDE);
        }
        due("6 x 3", basins.mark(3, 0, 1), OUTSIDE);
        due("6 y 2", basins.mark(0, 2, 1), OUTSIDE);
        due("6 refused", basins.count(3), 0);
    }

    private static void promise7Pits() {
        // (0, 0) and (1, 0) go down to (2, 0): they are no PIT.
        FloodBasins row = rowOf(2, 2, 1, 2, 0);
        row.mark(0, 0, 50);
        due("7 row", row.pits(), 2);
        dueRow("7 row", row, 0, 1, 0, 0, 1, 0, 2);
        FloodBasins flats = landOf(new int[] {1, 1, 9, 0}, new int[] {9, 1, 9, 0}, new int[] {3, 9, 3, 9});
        due("7 flats", flats.pits(), 4);
        dueRow("7 flats", flats, 0, 1, 1, 1, 0, 2);
        dueRow("7 flats", flats, 1, 1, 0, 1, 0, 2);
        dueRow("7 flats", flats, 2, 1, 3, 0, 4, 0);
        // The PIT's first DOT decides, not the one that is leftmost.
        FloodBasins bent = landOf(new int[] {5, 9, 0}, new int[] {9, 9, 0}, new int[] {0, 0, 0});
        due("7 bent", bent.pits(), 2);
        dueRow("7 bent", bent, 0, 1, 1, 0, 2);
        dueRow("7 bent", bent, 2, 1, 2, 2, 2);
        FloodBasins board = new FloodBasins();
        due("7 no MARK", board.count(3), 0);
        due("7 flat", board.pits(), 1);
        due("7 flat: MARKS", board.count(3), 64);
        board.land(12, 12);
        due("7 board", board.wave(1, 1, 0, 2), 72);
        due("7 board pits()", board.pits(), 72);
        due("7 board: MARKS", board.count(3), 72);
        due("7 board: last", board.dot(11, 11, 1), 72);
    }

    private static void promise8DotOrder() {
        FloodBasins basins = new FloodBasins();
        basins.land(3, 3);
        basins.mark(1, 1, 5);
        dueRow("8 order", basins, 0, 4, 8, 4, 6);
        dueRow("8 order", basins, 1, 4, 3, 0, 1);
        dueRow("8 order", basins, 2, 4, 7, 2, 5);
        // A less high one goes before those that came earlier.
        basins.put(1, 0, 1);
        basins.put(0, 1, 2);
        basins.put(1, 2, 2);
        basins.put(2, 1, 3);
        dueRow("8 heights", basins, 0, 4, 3, 1, 2);
        dueRow("8 heights", basins, 1, 4, 5, 0, 8);
        dueRow("8 heights", basins, 2, 4, 7, 4, 6);
    }

    private static void promise8DotLevels() {
        FloodBasins basins = rowOf(0, 5, 2, 9, 1);
        basins.mark(0, 0, 44);
        dueRow("8 HEIGHT", basins, 0, 0, 0, 5, 2, 9, 1);
        dueRow("8 MARK", basins, 0, 1, 44, 0, 0, 0, 0);
        dueRow("8 owner", basins, 0, 2, 44, 44, 44, 44, 44);
        dueRow("8 LEVEL", basins, 0, 3, 0, 5, 5, 9, 9);
        dueRow("8 turn", basins, 0, 4, 0, 1, 2, 3, 4);
        basins.mark(4, 0, 3);
        // (3, 0) waits at 9 while 44 comes to it: a DAM.
        dueRow("8 two", basins, 0, 2, 44, 44, 44, 0, 3);
        dueRow("8 two LEVEL", basins, 0, 3, 0, 5, 5, 9, 1);
        dueRow("8 two turn", basins, 0, 4, 0, 1, 2, 3, 0);
        for (int bad : FAR) {
            due("8 what " + bad, basins.dot(0, 0, bad), OUTSIDE);
            due("8 x " + bad, basins.dot(bad, 0, 0), OUTSIDE);
            due("8 y " + bad, basins.dot(0, bad, 0), OUTSIDE);
        }
        due("8 what -1", basins.dot(0, 0, -1), OUTSIDE);
        due("8 what 6", basins.dot(0, 0, 6), OUTSIDE);
        due("8 x 5", basins.dot(5, 0, 0), OUTSIDE);
        due("8 y 1", basins.dot(0, 1, 0), OUTSIDE);
        due("8 x -1", basins.dot(-1, 0, 0), OUTSIDE);
        due("8 y -1", basins.dot(0, -1, 0), OUTSIDE);
    }

    /** DAMS cut two corners off: water never comes there, not when all is POURED either. */
    private static FloodBasins dryCorners() {
        FloodBasins basins = new FloodBasins();
        basins.land(3, 3);
        basins.mark(2, 0, 1);
        basins.mark(1, 1, 2);
        basins.mark(0, 2, 3);
        return basins;
    }

    private static void promise8DotDamsAndDry() {
        FloodBasins basins = dryCorners();
        dueRow("8 dry owner", basins, 0, 2, NONE, 0, 1);
        dueRow("8 dry owner", basins, 1, 2, 0, 2, 0);
        dueRow("8 dry owner", basins, 2, 2, 3, 0, NONE);
        dueRow("8 dry LEVEL", basins, 0, 3, NONE, 0, 0);
        dueRow("8 dry turn", basins, 0, 4, NONE, 2, 0);
        dueRow("8 dry turn", basins, 1, 4, 4, 0, 1);
        dueRow("8 dry turn", basins, 2, 4, 0, 3, NONE);
        dueRow("8 dry poured", basins, 0, 5, NONE, 0, 1);
        due("8 dry bound", basins.bound(0, 2000), 2);
        dueRow("8 dry poured", basins, 0, 5, NONE, 3, 3);
        dueRow("8 dry poured", basins, 1, 5, 3, 3, 3);
        dueRow("8 dry poured", basins, 2, 5, 3, 3, NONE);
        dueRow("8 dry flood stays", basins, 0, 2, NONE, 0, 1);
    }

    /** PITS at 0, 3, 1, 4; the PASSES between them are 6, 5, 9. */
    private static FloodBasins fourBasins() {
        FloodBasins basins = rowOf(0, 6, 3, 5, 1, 9, 4);
        due("four PITS", basins.pits(), 4);
        return basins;
    }

    private static void promise9Bound() {
        FloodBasins basins = fourBasins();
        due("9 at first", basins.count(5), 4);
        due("9 bound(0, 1)", basins.bound(0, 1), 0);
        due("9 bound(0, 2)", basins.bound(0, 2), 3);
        due("9 bound(1, 2)", basins.bound(1, 2), 0);
        due("9 bound(1, 3)", basins.bound(1, 3), 1);
        due("9 bound(1, 5)", basins.bound(1, 5), 1);
        due("9 bound(1, 6)", basins.bound(1, 6), 3);
        due("9 bound(2, 2)", basins.bound(2, 2), 0);
        due("9 bound(2, 3)", basins.bound(2, 3), 1);
        due("9 bound(2, 10)", basins.bound(2, 10), 3);
        due("9 bound(2, 2000)", basins.bound(2, 2000), 3);
        due("9 KIND", basins.count(9), 2);
        due("9 BOUND", basins.count(10), 2000);
        due("9 k 3", basins.bound(3, 5), OUTSIDE);
        due("9 k -1", basins.bound(-1, 5), OUTSIDE);
        due("9 n -1", basins.bound(0, -1), OUTSIDE);
        due("9 n 2001", basins.bound(0, 2001), OUTSIDE);
        for (int bad : FAR) {
            due("9 k " + bad, basins.bound(bad, 5), OUTSIDE);
            due("9 n " + bad, basins.bound(0, bad), OUTSIDE);
        }
        due("9 refused: KIND", basins.count(9), 2);
        due("9 refused: BOUND", basins.count(10), 2000);
        due("9 bound(1, 0)", basins.bound(1, 0), 0);
        due("9 all there again", basins.count(5), 4);
        basins.bound(1, 3);
        basins.put(3, 0, 8);
        due("9 goes on after a change", basins.count(5), 4);
    }

    private static void dueBasin(String label, FloodBasins basins, int b, int... wants) {
        for (int what = 0; what < wants.length; what++) {
            due(label + " basin(" + b + ", " + what + ")", basins.basin(b, what), wants[what]);
        }
    }

    private static void promise10Basin() {
        FloodBasins basins = fourBasins();
        dueBasin("10", basins, 1, 1, 6, 6, 0, 6, 2);
        dueBasin("10", basins, 2, 1, 2, 2, 3, 5, 3);
        dueBasin("10", basins, 3, 1, 4, 4, 1, 5, 2);
        dueBasin("10", basins, 4, 1, 5, 5, 4, 9, 3);
        basins.bound(1, 3);
        dueBasin("10 poured", basins, 2, UNKNOWN, UNKNOWN, UNKNOWN, UNKNOWN, UNKNOWN, UNKNOWN);
        dueBasin("10 poured", basins, 3, 3, 5, 9, 1, 6, 1);
        basins.bound(1, 6);
        dueBasin("10 all", basins, 1, 7, 0, 0, 0, NONE, NONE);
        due("10 what -1", basins.basin(1, -1), OUTSIDE);
        due("10 what 6", basins.basin(1, 6), OUTSIDE);
        for (int bad : FAR) {
            due("10 what " + bad, basins.basin(1, bad), OUTSIDE);
            due("10 b " + bad, basins.basin(bad, 0), UNKNOWN);
        }
        due("10 UNKNOWN first", basins.basin(2, 6), UNKNOWN);
        due("10 b 0", basins.basin(0, 0), UNKNOWN);
        due("10 b 99", basins.basin(99, 0), UNKNOWN);
        due("10 b 100", basins.basin(100, 0), UNKNOWN);
        FloodBasins last = fourBasins();
        last.mark(6, 0, 99);
        dueBasin("10 the greatest number", last, 99, 1, 5, 5, 4, 9, 3);
    }

    private static void promise10BasinBelowItsPass() {
        // The DAM is lower than both BASINS: its HEIGHT is the PASS, not its LEVEL.
        FloodBasins basins = rowOf(9, 2, 8);
        basins.mark(0, 0, 1);
        basins.mark(2, 0, 2);
        dueBasin("10 low DAM", basins, 1, 1, 0, 0, 9, 2, 2);
        dueBasin("10 low DAM", basins, 2, 1, 0, 0, 8, 2, 1);
        due("10 low DAM: LEVEL", basins.dot(1, 0, 3), 9);
        due("10 low DAM: DEPTH 0", basins.bound(1, 1), 1);
        // Some DOTS of a BASIN are above the PASS: they hold no WATER, and take none away.
        FloodBasins mixed = rowOf(7, 1, 4, 0);
        mixed.mark(0, 0, 6);
        mixed.mark(1, 0, 6);
        mixed.mark(3, 0, 5);
        dueBasin("10 mixed", mixed, 6, 2, 3, 3, 1, 4, 5);
        dueBasin("10 mixed", mixed, 5, 1, 4, 4, 0, 4, 6);
        // Of two WAYS OUT over one PASS the lesser number; of two PASSES the lesser one.
        FloodBasins ways = rowOf(0, 5, 0, 5, 0, 4, 0);
        ways.mark(0, 0, 30);
        ways.mark(2, 0, 20);
        ways.mark(4, 0, 10);
        ways.mark(6, 0, 40);
        due("10 of one PASS", ways.basin(20, 5), 10);
        ways.mark(0, 0, 5);
        due("10 of one PASS, the first", ways.basin(20, 5), 5);
        due("10 of the least PASS", ways.basin(10, 5), 40);
    }

    private static void promise11Pass() {
        FloodBasins basins = fourBasins();
        due("11 pass(1, 2)", basins.pass(1, 2), 6);
        due("11 pass(2, 1)", basins.pass(2, 1), 6);
        due("11 pass(2, 3)", basins.pass(2, 3), 5);
        due("11 pass(3, 4)", basins.pass(3, 4), 9);
        due("11 pass(4, 1)", basins.pass(4, 1), NONE);
        due("11 one", basins.pass(2, 2), OUTSIDE);
        due("11 no first", basins.pass(5, 2), UNKNOWN);
        due("11 no second", basins.pass(2, 5), UNKNOWN);
        due("11 UNKNOWN first", basins.pass(5, 5), UNKNOWN);
        due("11 0", basins.pass(0, 1), UNKNOWN);
        due("11 100", basins.pass(1, 100), UNKNOWN);
        for (int bad : FAR) {
            due("11 one " + bad, basins.pass(bad, 1), UNKNOWN);
            due("11 other " + bad, basins.pass(1, bad), UNKNOWN);
        }
        basins.bound(1, 3);
        due("11 poured", basins.pass(1, 3), 6);
        due("11 poured away", basins.pass(1, 2), UNKNOWN);
        FloodBasins touching = landOf(new int[] {3, 8}, new int[] {4, 6});
        touching.mark(0, 0, 1);
        touching.mark(1, 0, 2);
        touching.mark(0, 1, 1);
        touching.mark(1, 1, 2);
        due("11 touching", touching.pass(1, 2), 6);
        due("11 touching", touching.pass(2, 1), 6);
        touching.put(0, 1, 9);
        due("11 touching, the greater HEIGHT", touching.pass(1, 2), 8);
        // One DAM stands between three BASINS.
        FloodBasins three = landOf(new int[] {9, 0, 9}, new int[] {0, 7, 0});
        three.mark(1, 0, 1);
        three.mark(0, 1, 2);
        three.mark(2, 1, 3);
        due("11 three (2, 3)", three.pass(2, 3), 7);
        due("11 three (1, 3)", three.pass(1, 3), 7);
        FloodBasins alone = rowOf(0);
        alone.mark(0, 0, 1);
        due("11 there is no other", alone.pass(1, 2), UNKNOWN);
    }

    private static void promise12Poured() {
        FloodBasins basins = fourBasins();
        dueEvents("12 at first", basins, false);
        basins.bound(0, 2);
        dueEvents("12 by DOTS", basins, false, new int[] {2, 3, 5, 1}, new int[] {1, 3, 6, 1}, new int[] {4, 3, 9, 1});
        basins.bound(1, 6);
        dueEvents("12 by DEPTH", basins, false, new int[] {2, 3, 5, 1}, new int[] {3, 1, 6, 1}, new int[] {4, 1, 9, 1});
        basins.bound(2, 10);
        dueEvents("12 by WATER", basins, false, new int[] {2, 3, 5, 1}, new int[] {1, 3, 6, 1}, new int[] {4, 3, 9, 1});
        due("12 i -1", basins.poured(-1, 0), NONE);
        for (int bad : FAR) {
            due("12 i " + bad, basins.poured(bad, 0), NONE);
            due("12 what " + bad, basins.poured(0, bad), OUTSIDE);
        }
        due("12 what -1", basins.poured(0, -1), OUTSIDE);
        due("12 what 4", basins.poured(0, 4), OUTSIDE);
        due("12 both", basins.poured(-1, 4), OUTSIDE);
        FloodBasins dry = dryCorners();
        dry.bound(0, 2);
        // 3 DOTS are in 2 after the first, so that 3 goes next.
        dueEvents("12 two DAMS", dry, false, new int[] {1, 2, 0, 2}, new int[] {3, 2, 0, 2});
        FloodBasins touching = rowOf(1, 2);
        touching.mark(0, 0, 8);
        touching.mark(1, 0, 7);
        touching.bound(0, 2);
        dueEvents("12 no DAM", touching, false, new int[] {7, 8, 2, 0});
    }

    private static void promise13Tree() {
        FloodBasins basins = fourBasins();
        int[][] events = {{2, 3, 5, 1}, {1, 3, 6, 1}, {3, 4, 9, 1}};
        dueEvents("13", basins, true, events);
        basins.bound(1, 3);
        dueEvents("13 whatever is POURED", basins, true, events);
        due("13 i -1", basins.tree(-1, 0), NONE);
        for (int bad : FAR) {
            due("13 i " + bad, basins.tree(bad, 0), NONE);
            due("13 what " + bad, basins.tree(0, bad), OUTSIDE);
        }
        due("13 what -1", basins.tree(0, -1), OUTSIDE);
        due("13 what 4", basins.tree(0, 4), OUTSIDE);
        due("13 both", basins.tree(99, 4), OUTSIDE);
        basins.mark(6, 0, 0);
        dueEvents("13 after a change", basins, true, new int[] {2, 3, 5, 1}, new int[] {1, 3, 6, 1});
        dueEvents("13 no MARK", new FloodBasins(), true);
        FloodBasins board = new FloodBasins();
        board.land(12, 12);
        board.wave(1, 1, 0, 2);
        board.pits();
        due("13 board", board.count(11), 71);
        due("13 board last", board.tree(70, 2), 1);
        due("13 board after", board.tree(71, 2), NONE);
        FloodBasins full = new FloodBasins();
        full.land(12, 12);
        for (int i = 0; i < 99; i++) {
            full.mark(i % 12, i / 12, i + 1);
        }
        due("13 full", full.count(11), 98);
        due("13 full last", full.tree(97, 1), 99);
        due("13 full after", full.tree(98, 0), NONE);
    }

    private static void promise14Over() {
        FloodBasins basins = landOf(new int[] {1, 9, 2}, new int[] {4, 8, 3}, new int[] {5, 6, 0});
        due("14 around", basins.over(0, 0, 2, 0), 6);
        due("14 back", basins.over(2, 0, 0, 0), 6);
        due("14 the end is highest", basins.over(2, 2, 1, 0), 9);
        due("14 the start is highest", basins.over(1, 0, 2, 2), 9);
        due("14 beside", basins.over(0, 0, 0, 1), 4);
        due("14 itself", basins.over(2, 0, 2, 0), 2);
        FloodBasins high = rowOf(99, 0, 99);
        due("14 of 99", high.over(0, 0, 2, 0), 99);
        due("14 of 99 itself", high.over(0, 0, 0, 0), 99);
        due("14 of 0", high.over(1, 0, 1, 0), 0);
        due("14 marks don't matter", fourBasins().over(0, 0, 6, 0), 9);
        for (int bad : new int[] {-1, 3, Integer.MIN_VALUE, Integer.MAX_VALUE}) {
            due("14 x " + bad, basins.over(bad, 0, 0, 0), OUTSIDE);
            due("14 y " + bad, basins.over(0, bad, 0, 0), OUTSIDE);
            due("14 x2 " + bad, basins.over(0, 0, bad, 0), OUTSIDE);
            due("14 y2 " + bad, basins.over(0, 0, 0, bad), OUTSIDE);
        }
    }

    private static void dueWet(String label, FloodBasins basins, int x, int y, int level, int... wants) {
        for (int what = 0; what < 3; what++) {
            due(label + " wet, " + what, basins.wet(x, y, level, what), wants[what]);
        }
    }

    private static void promise15Wet() {
        FloodBasins basins = landOf(new int[] {1, 9, 2}, new int[] {4, 8, 3}, new int[] {5, 6, 0});
        dueWet("15 low", basins, 0, 0, 1, 1, 0, 4);
        dueWet("15 higher", basins, 0, 0, 5, 3, 5, 6);
        dueWet("15 over the edge", basins, 0, 0, 6, 7, 5 + 2 + 1 + 0 + 6 + 3 + 4, 8);
        dueWet("15 all but one", basins, 2, 2, 8, 8, 7 + 6 + 4 + 0 + 5 + 3 + 2 + 8, 9);
        dueWet("15 all", basins, 2, 2, 9, 9, 8 + 0 + 7 + 5 + 1 + 6 + 4 + 3 + 9, NONE);
        dueWet("15 too high", basins, 1, 0, 8, 0, 0, NONE);
        dueWet("15 just so high", basins, 1, 0, 9, 9, 8 + 0 + 7 + 5 + 1 + 6 + 4 + 3 + 9, NONE);
        dueWet("15 99", basins, 1, 0, 99, 9, 9 * 99 - 38, NONE);
        dueWet("15 0", basins, 2, 2, 0, 1, 0, 3);
        for (int bad : new int[] {-1, 3, Integer.MIN_VALUE, Integer.MAX_VALUE}) {
            due("15 x " + bad, basins.wet(bad, 0, 5, 0), OUTSIDE);
            due("15 y " + bad, basins.wet(0, bad, 5, 0), OUTSIDE);
            due("15 what " + bad, basins.wet(0, 0, 5, bad), OUTSIDE);
            due("15 what, too high " + bad, basins.wet(1, 0, 5, bad), OUTSIDE);
        }
        for (int bad : new int[] {-1, 100, Integer.MIN_VALUE, Integer.MAX_VALUE}) {
            due("15 level " + bad, basins.wet(0, 0, bad, 0), OUTSIDE);
        }
    }

    private static void dueCounts(String label, FloodBasins basins, int... wants) {
        for (int what = 0; what < wants.length; what++) {
            due(label + " count(" + what + ")", basins.count(what), wants[what]);
        }
    }

    private static void promise16Count() {
        FloodBasins basins = new FloodBasins();
        dueCounts("16 new", basins, 8, 8, 1, 0, 0, 0, 0, 0, NONE, 0, 0, 0, 0);
        FloodBasins four = fourBasins();
        dueCounts("16 four", four, 7, 1, 4, 4, 4, 4, 3, 3, 9, 0, 0, 3, 0);
        four.bound(1, 3);
        four.image(1);
        dueCounts("16 poured", four, 7, 1, 4, 4, 4, 3, 3, 2, 9, 1, 3, 3, 2);
        four.image(0);
        due("16 both IMAGES", four.count(12), 3);
        four.mark(1, 0, 3);
        dueCounts("16 one BASIN in two places", four, 7, 1, 4, 5, 4, 3, 2, 1, 9, 1, 3, 3, 3);
        FloodBasins dry = dryCorners();
        dueCounts("16 dry", dry, 3, 3, 1, 3, 3, 3, 4, 4, 0, 0, 0, 2, 0);
        FloodBasins marked = rowOf(7, 99);
        marked.mark(0, 0, 2);
        marked.mark(1, 0, 2);
        due("16 LEVEL of a MARK", marked.count(8), 99);
        marked.mark(1, 0, 99);
        due("16 the greatest number", marked.count(4), 2);
        due("16 the greatest number, POURED", marked.count(5), 2);
        due("16 -1", basins.count(-1), OUTSIDE);
        due("16 13", basins.count(13), OUTSIDE);
        for (int bad : FAR) {
            due("16 " + bad, basins.count(bad), OUTSIDE);
        }
    }

    private static void promise17And18Images() {
        FloodBasins basins = fourBasins();
        basins.bound(1, 3);
        List<Integer> four = fingerprint(basins);
        due("17 image(0)", basins.image(0), 1);
        due("17 kept", basins.count(12), 1);
        same("17 changes nothing", fingerprint(basins), four);
        basins.land(3, 3);
        basins.mark(1, 1, 8);
        basins.heap(1, 1, 20, 3);
        basins.bound(2, 7);
        List<Integer> three = fingerprint(basins);
        due("17 image(1)", basins.image(1), 1);
        due("17 both kept", basins.count(12), 3);
        due("18 restore(0)", basins.restore(0), 1);
        same("18 as it was", fingerprint(basins), four);
        due("18 IMAGES stay", basins.count(12), 3);
        basins.put(0, 0, 50);
        basins.mark(0, 0, 50);
        due("18 restore(0) again", basins.restore(0), 1);
        same("18 as it was, again", fingerprint(basins), four);
        due("18 restore(1)", basins.restore(1), 1);
        same("18 the other one", fingerprint(basins), three);
        due("17 in place of", basins.image(0), 1);
        basins.land(12, 12);
        basins.restore(0);
        same("17 in place of", fingerprint(basins), three);
        for (int bad : new int[] {-1, 2, Integer.MIN_VALUE, Integer.MAX_VALUE}) {
            due("17 k " + bad, basins.image(bad), OUTSIDE);
            due("18 k " + bad, basins.restore(bad), OUTSIDE);
        }
        FloodBasins empty = fourBasins();
        empty.image(1);
        empty.put(0, 0, 3);
        List<Integer> before = fingerprint(empty);
        due("18 STATE", empty.restore(0), STATE);
        same("18 STATE changes nothing", fingerprint(empty), before);
        due("18 OUTSIDE before STATE", empty.restore(2), OUTSIDE);
    }

    private static void refusedCallsChangeNothing() {
        FloodBasins basins = fourBasins();
        basins.bound(1, 3);
        basins.image(0);
        List<Integer> before = fingerprint(basins);
        basins.land(0, 5);
        basins.land(5, 13);
        basins.wave(1, 1, 1, 0);
        basins.wave(51, 1, 1, 5);
        basins.heap(7, 0, 5, 1);
        basins.heap(0, 0, 5, 51);
        basins.put(0, 1, 5);
        basins.put(0, 0, 100);
        basins.mark(7, 0, 5);
        basins.mark(0, 0, 100);
        basins.dot(0, 0, 6);
        basins.bound(3, 5);
        basins.bound(2, 2001);
        basins.basin(77, 0);
        basins.pass(1, 1);
        basins.poured(0, 4);
        basins.tree(0, 4);
        basins.over(0, 0, 7, 0);
        basins.wet(0, 0, 100, 0);
        basins.count(13);
        basins.image(2);
        basins.restore(1);
        basins.restore(2);
        same("refused", fingerprint(basins), before);
        due("refused: IMAGES", basins.count(12), 1);
    }

    private static void same(String label, List<Integer> got, List<Integer> want) {
        if (!got.equals(want)) {
            wrong++;
            System.out.println(label + ": is " + got + ", due is " + want);
        }
    }

    private static List<Integer> fingerprint(FloodBasins basins) {
        List<Integer> all = new ArrayList<>();
        for (int what = 0; what < 12; what++) {
            all.add(basins.count(what));
        }
        for (int y = 0; y < basins.count(1); y++) {
            for (int x = 0; x < basins.count(0); x++) {
                for (int what = 0; what < 6; what++) {
                    all.add(basins.dot(x, y, what));
                }
            }
        }
        return all;
    }
}
