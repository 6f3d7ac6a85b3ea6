import java.util.Arrays;

/**
 * Basins that are flooded from marks.
 *
 * <p>Words in capitals are terms of the document. All rows are made with the object and used again
 * by every call, so that a call makes nothing. THE FLOOD, THE POUR and THE TREE are found when they
 * are first asked for and stand until something that they hang on changes.
 */
public final class FloodBasins {
    public static final int UNKNOWN = -1, OUTSIDE = -2, STATE = -3, NONE = -6;

    private static final int FIRST_SIDE = 8;
    private static final int MOST_SIDE = 12;
    private static final int MOST_DOTS = 144;
    private static final int NEIGHBOURS = 4;
    private static final int MOST_HEIGHT = 99;
    private static final int MOST_MARK = 99;
    private static final int MOST_FACTOR = 50;
    private static final int MOST_MODULUS = 100;
    private static final int MOST_STEP = 50;
    private static final int MOST_KIND = 2;
    private static final int MOST_BOUND = 2000;
    private static final int IMAGES = 2;

    private static final int DAM = 0;
    private static final int NO_DOT = -1;
    // Above every HEIGHT, so that "less than" needs no case of its own for "there is none".
    private static final int NO_HEIGHT = 100;
    // No BASIN has as many DOTS, so by KIND 0 this bound holds back none.
    private static final int EVERY_SIZE = 145;
    // Halving 0 to 99 comes to one number in seven turns.
    private static final int HALVINGS = 7;

    private final Terrain terrain = new Terrain();
    private final Spread spread = new Spread();
    private final Flood flood = new Flood();
    private final Pour chosenPour = new Pour();
    private final Pour wholePour = new Pour();
    private final Image[] images = {new Image(), new Image()};
    private int kindOfPour = 0;
    private int boundOfPour = 0;
    private boolean floodStands = false;
    private boolean pourStands = false;
    private boolean treeStands = false;

    public FloodBasins() {
        terrain.shape(FIRST_SIDE, FIRST_SIDE);
    }

    public int land(int wide, int high) {
        if (!within(wide, 1, MOST_SIDE) || !within(high, 1, MOST_SIDE)) {
            return OUTSIDE;
        }
        terrain.shape(wide, high);
        terrain.clear();
        return pitsAfterChange();
    }

    public int wave(int a, int b, int c, int m) {
        boolean factorsFit = within(a, 0, MOST_FACTOR) && within(b, 0, MOST_FACTOR)
                && within(c, 0, MOST_FACTOR);
        if (!factorsFit || !within(m, 1, MOST_MODULUS)) {
            return OUTSIDE;
        }
        terrain.ripple(a, b, c, m);
        return pitsAfterChange();
    }

    public int heap(int x, int y, int n, int step) {
        boolean numbersFit = within(n, -MOST_HEIGHT, MOST_HEIGHT) && within(step, 0, MOST_STEP);
        if (terrain.dotAt(x, y) == NO_DOT || !numbersFit) {
            return OUTSIDE;
        }
        terrain.raise(x, y, n, step);
        return pitsAfterChange();
    }

    public int put(int x, int y, int n) {
        int dot = terrain.dotAt(x, y);
        if (dot == NO_DOT || !within(n, 0, MOST_HEIGHT)) {
            return OUTSIDE;
        }
        terrain.heights[dot] = n;
        return pitsAfterChange();
    }

    public int mark(int x, int y, int b) {
        int dot = terrain.dotAt(x, y);
        if (dot == NO_DOT || !within(b, 0, MOST_MARK)) {
            return OUTSIDE;
        }
        int before = terrain.marks[dot];
        terrain.marks[dot] = b;
        nothingStands();
        return before;
    }

    public int pits() {
        Arrays.fill(terrain.marks, 0);
        nothingStands();
        return findPits(true);
    }

    public int dot(int x, int y, int what) {
        int dot = terrain.dotAt(x, y);
        if (dot == NO_DOT) {
            return OUTSIDE;
        }
        switch (what) {
            case 0:
                return terrain.heights[dot];
            case 1:
                return terrain.marks[dot];
            case 2:
                return standingFlood().owners[dot];
            case 3:
                return standingFlood().levels[dot];
            case 4:
                return standingFlood().turns[dot];
            case 5:
                return standingPour().owners[dot];
            default:
                return OUTSIDE;
        }
    }

    public int bound(int k, int n) {
        if (!within(k, 0, MOST_KIND) || !within(n, 0, MOST_BOUND)) {
            return OUTSIDE;
        }
        kindOfPour = k;
        boundOfPour = n;
        pourStands = false;
        return standingPour().events;
    }

    public int basin(int b, int what) {
        Pour pour = standingPour();
        if (!pour.hasBasin(b)) {
            return UNKNOWN;
        }
        switch (what) {
            case 0:
            case 1:
            case 2:
                return pour.sizeOf(b, what);
            case 3:
                return pour.leastHeights[b];
            case 4:
                return heightOrNone(pour.leastPasses[b]);
            case 5:
                return pour.waysOut[b];
            default:
                return OUTSIDE;
        }
    }

    public int pass(int one, int other) {
        Pour pour = standingPour();
        if (!pour.hasBasin(one) || !pour.hasBasin(other)) {
            return UNKNOWN;
        }
        if (one == other) {
            return OUTSIDE;
        }
        return heightOrNone(pour.passBetween(terrain, one, other));
    }

    public int poured(int i, int what) {
        return standingPour().told(i, what);
    }

    public int tree(int i, int what) {
        return standingTree().told(i, what);
    }

    public int over(int x, int y, int x2, int y2) {
        int from = terrain.dotAt(x, y);
        int to = terrain.dotAt(x2, y2);
        if (from == NO_DOT || to == NO_DOT) {
            return OUTSIDE;
        }
        return leastLevelBetween(from, to);
    }

    public int wet(int x, int y, int level, int what) {
        int dot = terrain.dotAt(x, y);
        if (dot == NO_DOT || !within(level, 0, MOST_HEIGHT) || !within(what, 0, 2)) {
            return OUTSIDE;
        }
        spread.forget();
        spread.from(terrain, dot, 0, level);
        switch (what) {
            case 0:
                return spread.size;
            case 1:
                return spread.waterBelow(terrain, level);
            default:
                return heightOrNone(spread.lowestAround(terrain, 0, level));
        }
    }

    public int count(int what) {
        switch (what) {
            case 0:
                return terrain.wide;
            case 1:
                return terrain.high;
            case 2:
                return findPits(false);
            case 3:
                return terrain.countMarks();
            case 4:
                return standingFlood().countBasins(terrain);
            case 5:
                return standingPour().countBasins();
            case 6:
                return terrain.countDams(standingFlood().owners);
            case 7:
                return terrain.countDams(standingPour().owners);
            case 8:
                return standingFlood().greatestLevel(terrain);
            case 9:
                return kindOfPour;
            case 10:
                return boundOfPour;
            case 11:
                return standingTree().events;
            case 12:
                return (images[0].kept ? 1 : 0) + (images[1].kept ? 2 : 0);
            default:
                return OUTSIDE;
        }
    }

    public int image(int k) {
        if (!within(k, 0, IMAGES - 1)) {
            return OUTSIDE;
        }
        images[k].keep(terrain, kindOfPour, boundOfPour);
        return 1;
    }

    public int restore(int k) {
        if (!within(k, 0, IMAGES - 1)) {
            return OUTSIDE;
        }
        Image image = images[k];
        if (!image.kept) {
            return STATE;
        }
        image.giveBack(terrain);
        kindOfPour = image.kind;
        boundOfPour = image.bound;
        nothingStands();
        return 1;
    }

    private static boolean within(int n, int least, int most) {
        return n >= least && n <= most;
    }

    private static int heightOrNone(int height) {
        return height == NO_HEIGHT ? NONE : height;
    }

    private int pitsAfterChange() {
        nothingStands();
        return findPits(false);
    }

    private void nothingStands() {
        floodStands = false;
        pourStands = false;
        treeStands = false;
    }

    private Flood standingFlood() {
        if (!floodStands) {
            flood.rise(terrain);
            floodStands = true;
        }
        return flood;
    }

    private Pour standingPour() {
        if (!pourStands) {
            chosenPour.run(terrain, standingFlood().owners, kindOfPour, boundOfPour);
            pourStands = true;
        }
        return chosenPour;
    }

    private Pour standingTree() {
        if (!treeStands) {
            wholePour.run(terrain, standingFlood().owners, 0, EVERY_SIZE);
            treeStands = true;
        }
        return wholePour;
    }

    private int findPits(boolean marking) {
        int found = 0;
        spread.forget();
        for (int dot = 0; dot < terrain.dots; dot++) {
            if (spread.cameTo(dot)) {
                continue;
            }
            int height = terrain.heights[dot];
            spread.from(terrain, dot, height, height);
            if (spread.lowestAround(terrain, height, height) < height) {
                continue;
            }
            found++;
            if (marking) {
                spread.markAll(terrain, found);
            }
        }
        return found;
    }

    private int leastLevelBetween(int from, int to) {
        int low = Math.max(terrain.heights[from], terrain.heights[to]);
        int high = MOST_HEIGHT;
        for (int turn = 0; turn < HALVINGS && low < high; turn++) {
            int middle = (low + high) / 2;
            spread.forget();
            spread.from(terrain, from, 0, middle);
            if (spread.cameTo(to)) {
                high = middle;
            } else {
                low = middle + 1;
            }
        }
        return low;
    }

    /** THE LAND. A DOT is told by its place in the order of DOTS. */
    private static final class Terrain {
        int wide = 0;
        int high = 0;
        int dots = 0;
        final int[] heights = new int[MOST_DOTS];
        final int[] marks = new int[MOST_DOTS];
        private final int[] besides = new int[MOST_DOTS * NEIGHBOURS];

        void shape(int newWide, int newHigh) {
            wide = newWide;
            high = newHigh;
            dots = newWide * newHigh;
            for (int y = 0; y < high; y++) {
                for (int x = 0; x < wide; x++) {
                    int place = (y * wide + x) * NEIGHBOURS;
                    besides[place] = dotAt(x + 1, y);
                    besides[place + 1] = dotAt(x, y + 1);
                    besides[place + 2] = dotAt(x - 1, y);
                    besides[place + 3] = dotAt(x, y - 1);
                }
            }
        }

        void clear() {
            Arrays.fill(heights, 0);
            Arrays.fill(marks, 0);
        }

        int dotAt(int x, int y) {
            return within(x, 0, wide - 1) && within(y, 0, high - 1) ? y * wide + x : NO_DOT;
        }

        int neighbour(int dot, int side) {
            return besides[dot * NEIGHBOURS + side];
        }

        void ripple(int a, int b, int c, int m) {
            for (int y = 0; y < high; y++) {
                for (int x = 0; x < wide; x++) {
                    heights[y * wide + x] = (a * x + b * y + c * x * y) % m;
                }
            }
        }

        void raise(int peakX, int peakY, int n, int step) {
            for (int y = 0; y < high; y++) {
                for (int x = 0; x < wide; x++) {
                    int steps = Math.abs(x - peakX) + Math.abs(y - peakY);
                    int change = Math.max(Math.abs(n) - step * steps, 0);
                    int dot = y * wide + x;
                    int height = n < 0 ? heights[dot] - change : heights[dot] + change;
                    heights[dot] = Math.min(Math.max(height, 0), MOST_HEIGHT);
                }
            }
        }

        int countMarks() {
            int marked = 0;
            for (int dot = 0; dot < dots; dot++) {
                if (marks[dot] > 0) {
                    marked++;
                }
            }
            return marked;
        }

        int countDams(int[] owners) {
            int dams = 0;
            for (int dot = 0; dot < dots; dot++) {
                if (owners[dot] == DAM) {
                    dams++;
                }
            }
            return dams;
        }

        /** The BASIN of which a DOT's NEIGHBOURS are; DAM if of more than one, NONE if of none. */
        int onlyBasinAround(int dot, int[] owners) {
            int only = NONE;
            for (int side = 0; side < NEIGHBOURS; side++) {
                int basin = basinBeside(dot, side, owners);
                if (basin == NONE || basin == only) {
                    continue;
                }
                if (only != NONE) {
                    return DAM;
                }
                only = basin;
            }
            return only;
        }

        /** The BASIN of one NEIGHBOUR; NONE where there is no DOT or it is of no BASIN. */
        int basinBeside(int dot, int side, int[] owners) {
            int near = besides[dot * NEIGHBOURS + side];
            return near != NO_DOT && owners[near] > DAM ? owners[near] : NONE;
        }
    }

    /** DOTS that are come to from one DOT by DOTS whose HEIGHTS lie between two numbers. */
    private static final class Spread {
        int size = 0;
        private final int[] reached = new int[MOST_DOTS];
        private final int[] seen = new int[MOST_DOTS];

        void forget() {
            Arrays.fill(seen, 0);
        }

        boolean cameTo(int dot) {
            return seen[dot] != 0;
        }

        void from(Terrain terrain, int start, int least, int most) {
            size = 0;
            reach(terrain, start, least, most);
            for (int i = 0; i < size && i < MOST_DOTS; i++) {
                for (int side = 0; side < NEIGHBOURS; side++) {
                    reach(terrain, terrain.neighbour(reached[i], side), least, most);
                }
            }
        }

        private void reach(Terrain terrain, int dot, int least, int most) {
            if (dot == NO_DOT || seen[dot] != 0 || size >= MOST_DOTS) {
                return;
            }
            if (within(terrain.heights[dot], least, most)) {
                seen[dot] = 1;
                reached[size] = dot;
                size++;
            }
        }

        void markAll(Terrain terrain, int mark) {
            for (int i = 0; i < size; i++) {
                terrain.marks[reached[i]] = mark;
            }
        }

        int waterBelow(Terrain terrain, int level) {
            int water = 0;
            for (int i = 0; i < size; i++) {
                water += level - terrain.heights[reached[i]];
            }
            return water;
        }

        /** The least HEIGHT around; a NEIGHBOUR between the two numbers was come to itself. */
        int lowestAround(Terrain terrain, int least, int most) {
            int lowest = NO_HEIGHT;
            for (int i = 0; i < size; i++) {
                for (int side = 0; side < NEIGHBOURS; side++) {
                    int near = terrain.neighbour(reached[i], side);
                    if (near != NO_DOT && !within(terrain.heights[near], least, most)) {
                        lowest = Math.min(lowest, terrain.heights[near]);
                    }
                }
            }
            return lowest;
        }
    }

    /** THE LINE: of each LEVEL a row of DOTS, in the order in which they came. */
    private static final class Line {
        private final int[] firsts = new int[NO_HEIGHT];
        private final int[] lasts = new int[NO_HEIGHT];
        private final int[] nexts = new int[MOST_DOTS];
        // Nothing comes in below what was TAKEN before, so this never has to go down again.
        private int least = 0;

        void empty() {
            Arrays.fill(firsts, NO_DOT);
            Arrays.fill(lasts, NO_DOT);
            least = 0;
        }

        void add(int dot, int level) {
            nexts[dot] = NO_DOT;
            if (firsts[level] == NO_DOT) {
                firsts[level] = dot;
            } else {
                nexts[lasts[level]] = dot;
            }
            lasts[level] = dot;
        }

        int take() {
            while (least < MOST_HEIGHT && firsts[least] == NO_DOT) {
                least++;
            }
            int dot = firsts[least];
            if (dot != NO_DOT) {
                firsts[least] = nexts[dot];
            }
            return dot;
        }
    }

    /** THE FLOOD. */
    private static final class Flood {
        final int[] owners = new int[MOST_DOTS];
        final int[] levels = new int[MOST_DOTS];
        final int[] turns = new int[MOST_DOTS];
        private final int[] present = new int[MOST_MARK + 1];
        private final Line line = new Line();

        void rise(Terrain terrain) {
            line.empty();
            startAtMarks(terrain);
            for (int dot = 0; dot < terrain.dots; dot++) {
                if (terrain.marks[dot] > 0) {
                    lineUpAround(terrain, dot);
                }
            }
            for (int turn = 1; turn <= terrain.dots; turn++) {
                int dot = line.take();
                if (dot == NO_DOT) {
                    return;
                }
                turns[dot] = turn;
                owners[dot] = terrain.onlyBasinAround(dot, owners);
                if (owners[dot] > DAM) {
                    lineUpAround(terrain, dot);
                }
            }
        }

        private void startAtMarks(Terrain terrain) {
            for (int dot = 0; dot < terrain.dots; dot++) {
                boolean marked = terrain.marks[dot] > 0;
                owners[dot] = marked ? terrain.marks[dot] : NONE;
                levels[dot] = marked ? terrain.heights[dot] : NONE;
                turns[dot] = marked ? 0 : NONE;
            }
        }

        private void lineUpAround(Terrain terrain, int dot) {
            for (int side = 0; side < NEIGHBOURS; side++) {
                int near = terrain.neighbour(dot, side);
                // A DOT has a LEVEL from when it is of a BASIN or came into THE LINE.
                if (near != NO_DOT && levels[near] == NONE) {
                    levels[near] = Math.max(terrain.heights[near], levels[dot]);
                    line.add(near, levels[near]);
                }
            }
        }

        /** Each MARK is a BASIN that has a DOT, and there are no other BASINS. */
        int countBasins(Terrain terrain) {
            int basins = 0;
            Arrays.fill(present, 0);
            for (int dot = 0; dot < terrain.dots; dot++) {
                int mark = terrain.marks[dot];
                if (mark > 0 && present[mark] == 0) {
                    present[mark] = 1;
                    basins++;
                }
            }
            return basins;
        }

        int greatestLevel(Terrain terrain) {
            int greatest = NONE;
            for (int dot = 0; dot < terrain.dots; dot++) {
                greatest = Math.max(greatest, levels[dot]);
            }
            return greatest;
        }
    }

    /** What is POURED, one BASIN after the other, and how BASINS lie when all is. */
    private static final class Pour {
        int events = 0;
        final int[] owners = new int[MOST_DOTS];
        final int[] leastHeights = new int[MOST_MARK + 1];
        final int[] leastPasses = new int[MOST_MARK + 1];
        final int[] waysOut = new int[MOST_MARK + 1];
        private final int[] dotCounts = new int[MOST_MARK + 1];
        private final int[] waters = new int[MOST_MARK + 1];
        private final int[] eventBasins = new int[MOST_MARK];
        private final int[] eventTargets = new int[MOST_MARK];
        private final int[] eventPasses = new int[MOST_MARK];
        private final int[] eventDams = new int[MOST_MARK];
        private final int[] becoming = new int[MOST_DOTS];

        void run(Terrain terrain, int[] floodOwners, int kind, int bound) {
            System.arraycopy(floodOwners, 0, owners, 0, MOST_DOTS);
            events = 0;
            // Each turn ends a BASIN and the last one is never POURED: the measures stay true.
            for (int turn = 0; turn < MOST_MARK; turn++) {
                measure(terrain);
                int basin = nextToPour(kind, bound);
                if (basin == NONE) {
                    return;
                }
                pourOut(terrain, basin);
                eventDams[events] = breakDams(terrain);
                events++;
            }
        }

        boolean hasBasin(int b) {
            return within(b, 1, MOST_MARK) && dotCounts[b] > 0;
        }

        int countBasins() {
            int basins = 0;
            for (int b = 1; b <= MOST_MARK; b++) {
                if (dotCounts[b] > 0) {
                    basins++;
                }
            }
            return basins;
        }

        int sizeOf(int b, int kind) {
            if (kind == 0) {
                return dotCounts[b];
            }
            if (leastPasses[b] == NO_HEIGHT) {
                return 0;
            }
            return kind == 1 ? Math.max(leastPasses[b] - leastHeights[b], 0) : waters[b];
        }

        int told(int i, int what) {
            if (!within(what, 0, 3)) {
                return OUTSIDE;
            }
            if (!within(i, 0, events - 1)) {
                return NONE;
            }
            switch (what) {
                case 0:
                    return eventBasins[i];
                case 1:
                    return eventTargets[i];
                case 2:
                    return eventPasses[i];
                default:
                    return eventDams[i];
            }
        }

        int passBetween(Terrain terrain, int one, int other) {
            int least = NO_HEIGHT;
            for (int dot = 0; dot < terrain.dots; dot++) {
                int height = terrain.heights[dot];
                if (owners[dot] == DAM) {
                    if (touches(terrain, dot, one) && touches(terrain, dot, other)) {
                        least = Math.min(least, height);
                    }
                } else if (owners[dot] == one) {
                    for (int side = 0; side < NEIGHBOURS; side++) {
                        int near = terrain.neighbour(dot, side);
                        if (near != NO_DOT && owners[near] == other) {
                            least = Math.min(least, Math.max(height, terrain.heights[near]));
                        }
                    }
                }
            }
            return least;
        }

        private boolean touches(Terrain terrain, int dot, int basin) {
            for (int side = 0; side < NEIGHBOURS; side++) {
                if (terrain.basinBeside(dot, side, owners) == basin) {
                    return true;
                }
            }
            return false;
        }

        private void measure(Terrain terrain) {
            Arrays.fill(dotCounts, 0);
            Arrays.fill(waters, 0);
            Arrays.fill(leastHeights, NO_HEIGHT);
            Arrays.fill(leastPasses, NO_HEIGHT);
            Arrays.fill(waysOut, NONE);
            for (int dot = 0; dot < terrain.dots; dot++) {
                int owner = owners[dot];
                if (owner == DAM) {
                    passesOverDam(terrain, dot);
                } else if (owner > DAM) {
                    dotCounts[owner]++;
                    leastHeights[owner] = Math.min(leastHeights[owner], terrain.heights[dot]);
                    passesBeside(terrain, dot);
                }
            }
            fillWaters(terrain);
        }

        private void passesOverDam(Terrain terrain, int dot) {
            int height = terrain.heights[dot];
            for (int side = 0; side < NEIGHBOURS; side++) {
                int one = terrain.basinBeside(dot, side, owners);
                for (int later = side + 1; one != NONE && later < NEIGHBOURS; later++) {
                    notePass(one, terrain.basinBeside(dot, later, owners), height);
                }
            }
        }

        /** Sides 0 and 1 alone: by the other two the same pairs would come again. */
        private void passesBeside(Terrain terrain, int dot) {
            for (int side = 0; side < 2; side++) {
                int near = terrain.neighbour(dot, side);
                if (near != NO_DOT) {
                    int height = Math.max(terrain.heights[dot], terrain.heights[near]);
                    notePass(owners[dot], owners[near], height);
                }
            }
        }

        private void notePass(int one, int other, int height) {
            if (one > DAM && other > DAM && one != other) {
                noteWayOut(one, other, height);
                noteWayOut(other, one, height);
            }
        }

        private void noteWayOut(int basin, int target, int height) {
            boolean lower = height < leastPasses[basin];
            if (lower || height == leastPasses[basin] && target < waysOut[basin]) {
                leastPasses[basin] = height;
                waysOut[basin] = target;
            }
        }

        private void fillWaters(Terrain terrain) {
            for (int dot = 0; dot < terrain.dots; dot++) {
                int owner = owners[dot];
                if (owner > DAM && leastPasses[owner] != NO_HEIGHT) {
                    waters[owner] += Math.max(leastPasses[owner] - terrain.heights[dot], 0);
                }
            }
        }

        private int nextToPour(int kind, int bound) {
            int next = NONE;
            int least = NO_HEIGHT;
            for (int b = 1; b <= MOST_MARK; b++) {
                if (leastPasses[b] < least && sizeOf(b, kind) < bound) {
                    least = leastPasses[b];
                    next = b;
                }
            }
            return next;
        }

        private void pourOut(Terrain terrain, int basin) {
            int target = waysOut[basin];
            for (int dot = 0; dot < terrain.dots; dot++) {
                if (owners[dot] == basin) {
                    owners[dot] = target;
                }
            }
            eventBasins[events] = basin;
            eventTargets[events] = target;
            eventPasses[events] = leastPasses[basin];
        }

        /** Two rounds, as all go at once: a DAM that goes must not be a NEIGHBOUR for the next. */
        private int breakDams(Terrain terrain) {
            int gone = 0;
            for (int dot = 0; dot < terrain.dots; dot++) {
                becoming[dot] = owners[dot];
                if (owners[dot] == DAM) {
                    int only = terrain.onlyBasinAround(dot, owners);
                    if (only > DAM) {
                        becoming[dot] = only;
                        gone++;
                    }
                }
            }
            System.arraycopy(becoming, 0, owners, 0, terrain.dots);
            return gone;
        }
    }

    /** What is kept for restore. */
    private static final class Image {
        boolean kept = false;
        int kind = 0;
        int bound = 0;
        private int wide = 0;
        private int high = 0;
        private final int[] heights = new int[MOST_DOTS];
        private final int[] marks = new int[MOST_DOTS];

        void keep(Terrain terrain, int newKind, int newBound) {
            kept = true;
            kind = newKind;
            bound = newBound;
            wide = terrain.wide;
            high = terrain.high;
            System.arraycopy(terrain.heights, 0, heights, 0, MOST_DOTS);
            System.arraycopy(terrain.marks, 0, marks, 0, MOST_DOTS);
        }

        void giveBack(Terrain terrain) {
            terrain.shape(wide, high);
            System.arraycopy(heights, 0, terrain.heights, 0, MOST_DOTS);
            System.arraycopy(marks, 0, terrain.marks, 0, MOST_DOTS);
        }
    }
}
