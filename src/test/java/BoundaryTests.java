import java.util.ArrayList;
import java.util.List;
import java.util.Set;
import java.util.TreeSet;

/**
 * Each sentence of the document that names a boundary, with a run of its own on a new object.
 *
 * <p>A run is told in lines:
 * <pre>
 *   rows 1 9 / 4 8           the land is so wide and high and has these heights
 *   marks 1 0 / 0 2          these marks are put (0: left as it is)
 *   put(0, 0, 3) = 1         the call answers this
 *   put({-1, 2}, 0, 3) ! OUTSIDE
 *                            each of these calls is refused with this answer and changes nothing
 *   dots(2) = 1 0 / . 2      dot(x, y, 2) of all dots; a point stands for NONE
 *   basin(1) = 2 3 3 1 4 2   the answers for what = 0, 1, 2 and so on
 *   tree = 1 2 4 0 / 2 3 5 1 all that is poured by the tree (or poured = ..), and that there is no more
 * </pre>
 */
public final class BoundaryTests {
    private static final int NONE = -6;
    // Beyond this call the document promises nothing, so no test may lean on it.
    private static final int MOST_CALLS = 512;

    private static int wrong = 0;
    private static String sentence = "";

    public static void main(String[] args) {
        theLand();
        theNeighbours();
        thePits();
        theFlood();
        theDams();
        thePasses();
        theSizes();
        thePour();
        thePourByItsBound();
        theTree();
        allIsFoundAnew();
        newObject();
        land();
        wave();
        heap();
        put();
        mark();
        pits();
        dot();
        bound();
        basin();
        pass();
        poured();
        tree();
        over();
        wet();
        count();
        image();
        restore();
        whatIsRefusedChangesNothing();
        theLastCall();
        System.out.println(wrong == 0 ? "all boundaries hold" : wrong + " boundaries do not hold");
        if (wrong != 0) {
            System.exit(1);
        }
    }

    // ---- the document's sentences: terms

    private static void theLand() {
        test("1 WIDE and HIGH: 8 at first", "count(0) = 8", "count(1) = 8", "dot(7, 7, 0) = 0",
            "dot({-1, 8}, 0, 0) ! OUTSIDE", "dot(0, {-1, 8}, 0) ! OUTSIDE");
        test("1 WIDE and HIGH: the least", "land(1, 1) = 1", "count(0) = 1", "count(1) = 1", "dots(0) = 0",
            "dot({-1, 1}, 0, 0) ! OUTSIDE", "dot(0, {-1, 1}, 0) ! OUTSIDE");
        test("1 WIDE and HIGH: the greatest", "land(12, 12) = 1", "count(0) = 12", "count(1) = 12", "dot(11, 11, 0) = 0",
            "dot(12, 11, 0) = OUTSIDE", "dot(11, 12, 0) = OUTSIDE");
        test("1 x goes by WIDE, y by HIGH", "land(12, 1) = 1", "dot(11, 0, 0) = 0", "dot(12, 0, 0) ! OUTSIDE",
            "dot(0, 1, 0) ! OUTSIDE", "land(1, 12) = 1", "dot(0, 11, 0) = 0", "dot(0, 12, 0) ! OUTSIDE", "dot(1, 0, 0) ! OUTSIDE");
        test("1 DOTS go by rising y, of one y by rising x", "rows 9 9 3 / 9 9 9 / 0 9 1", "pits() = 3",
            "dots(1) = 0 0 1 / 0 0 0 / 2 0 3");
        test("1 HEIGHT: 0 at first", "dot(0, 0, 0) = 0", "dot(7, 7, 0) = 0", "dot(3, 4, 0) = 0");
        test("1 HEIGHT: the greatest and the least", "put(0, 0, 99) = 1", "dot(0, 0, 0) = 99", "put(0, 0, 0) = 1",
            "dot(0, 0, 0) = 0", "put(0, 0, {-1, 100}) ! OUTSIDE");
        test("1 MARK: none at first", "dot(0, 0, 1) = 0", "dot(7, 7, 1) = 0", "count(3) = 0");
        test("1 MARK: the least and the greatest", "land(2, 1) = 1", "mark(0, 0, 1) = 0", "mark(1, 0, 99) = 0",
            "dots(1) = 1 99", "dots(2) = 1 99", "count(4) = 2", "mark(0, 0, {-1, 100}) ! OUTSIDE");
    }

    private static void theNeighbours() {
        test("1 NEIGHBOURS go right, down, left, up", "land(3, 3) = 1", "mark(1, 1, 5) = 0", "dots(4) = 8 4 6 / 3 0 1 / 7 2 5");
        test("1 NEIGHBOURS of a corner", "land(3, 3) = 1", "mark(0, 0, 5) = 0", "dots(4) = 0 1 3 / 2 4 6 / 5 7 8");
        test("1 NEIGHBOURS of the last corner", "land(3, 3) = 1", "mark(2, 2, 5) = 0", "dots(4) = 8 7 5 / 6 4 2 / 3 1 0");
        test("1 the end of one row is not beside the start of the next one", "rows 9 9 0 / 0 9 9", "count(2) = 2",
            "over(2, 0, 0, 1) = 9", "wet(2, 0, 8) = 1 8 9");
        test("1 the ends of a row are not beside each other", "rows 0 9 9 0", "count(2) = 2", "over(0, 0, 3, 0) = 9",
            "wet(0, 0, 0) = 1 0 9");
        test("1 the ends of a column are not beside each other", "rows 0 / 9 / 9 / 0", "count(2) = 2", "over(0, 0, 0, 3) = 9",
            "wet(0, 3, 0) = 1 0 9");
        test("1 DOTS across a corner are not beside each other", "rows 0 9 / 9 0", "count(2) = 2", "over(0, 0, 1, 1) = 9");
        test("1 a DOT without NEIGHBOURS", "land(1, 1) = 1", "mark(0, 0, 4) = 0", "dots(2) = 4", "dots(3) = 0", "dots(4) = 0",
            "dots(5) = 4", "count(8) = 0", "wet(0, 0, 0) = 1 0 .");
    }

    private static void thePits() {
        test("1 PIT: all DOTS are one", "count(2) = 1", "heap(0, 0, 99, 0) = 1", "count(2) = 1", "pits() = 1", "count(3) = 64");
        test("1 PIT: one DOT alone", "land(1, 1) = 1", "put(0, 0, 99) = 1", "pits() = 1", "dots(1) = 1");
        test("1 PIT: as many as come together", "rows 1 1 1 / 9 9 1 / 1 1 1", "count(2) = 1", "pits() = 1",
            "dots(1) = 1 1 1 / 0 0 1 / 1 1 1");
        test("1 PIT: of one HEIGHT, but apart", "rows 1 1 9 1 1", "count(2) = 2", "pits() = 2", "dots(1) = 1 1 0 2 2");
        test("1 PIT: not if its last DOT has a NEIGHBOUR that is less high", "rows 4 4 4 3", "pits() = 1", "dots(1) = 0 0 0 1");
        test("1 PIT: not if its first DOT has a NEIGHBOUR that is less high", "rows 3 4 4 4", "pits() = 1", "dots(1) = 1 0 0 0");
        test("1 PIT: a NEIGHBOUR that is higher by one", "rows 4 5 4", "pits() = 2", "dots(1) = 1 0 2");
        test("1 PIT: as many as there can be", "land(12, 12) = 1", "wave(1, 1, 0, 2) = 72", "count(2) = 72", "pits() = 72",
            "count(3) = 72", "dot(0, 0, 1) = 1", "dot(11, 11, 1) = 72");
    }

    private static void theFlood() {
        test("2 no MARK: nothing is of any BASIN", "rows 3 1 / 2 0", "dots(2) = . . / . .", "dots(3) = . . / . .",
            "dots(4) = . . / . .", "dots(5) = . . / . .", "count(4) = 0", "count(5) = 0", "count(6) = 0", "count(7) = 0",
            "count(8) = NONE", "count(11) = 0", "poured = ", "tree = ");
        test("2 the last MARK goes: nothing is of any BASIN again", "rows 3 1 / 2 0", "mark(1, 1, 7) = 0", "dots(2) = 7 7 / 7 7",
            "mark(1, 1, 0) = 7", "dots(2) = . . / . .", "count(4) = 0", "count(8) = NONE", "basin(7, 0) ! UNKNOWN");
        test("2 all have a MARK: none is TAKEN", "rows 3 1 / 2 0", "marks 4 3 / 2 1", "dots(2) = 4 3 / 2 1",
            "dots(3) = 3 1 / 2 0", "dots(4) = 0 0 / 0 0", "count(6) = 0", "count(8) = 3");
        test("2 one MARK: all others are TAKEN", "land(12, 12) = 1", "mark(0, 0, 1) = 0", "dot(11, 11, 4) = 143",
            "basin(1, 0) = 144", "count(6) = 0");
        test("2 THE LINE: of least LEVEL", "rows 0 9 3 / 4 9 9", "mark(0, 0, 1) = 0", "dots(4) = 0 2 4 / 1 3 5");
        test("2 THE LINE: of one LEVEL the one that came first", "rows 5 0 5 / 5 5 5", "mark(1, 0, 1) = 0",
            "dots(4) = 3 0 1 / 5 2 4");
        test("2 DOTS with MARKS are gone through in order", "land(5, 1) = 1", "mark(3, 0, 1) = 0", "mark(1, 0, 1) = 0",
            "dots(4) = 2 0 1 0 3");
        test("2 all MARKS are gone through before any is TAKEN", "rows 0 0 0 5 0", "mark(0, 0, 1) = 0", "mark(4, 0, 2) = 0",
            "dots(2) = 1 1 1 0 2", "dots(4) = 0 1 2 3 0");
        test("2 the LEVEL: HEIGHT less, as great, greater", "rows 5 4 5 6 5", "mark(0, 0, 1) = 0", "dots(3) = 5 5 5 6 6");
        test("2 the LEVEL: of 0 and of 99", "rows 0 99 0", "mark(0, 0, 1) = 0", "dots(3) = 0 99 99", "count(8) = 99",
            "land(3, 1) = 1", "mark(0, 0, 1) = 0", "dots(3) = 0 0 0", "count(8) = 0");
        test("2 the LEVEL is that of the DOT by which it came, though a lower one is beside it", "rows 9 0 1",
            "marks 1 0 1", "dots(3) = 9 9 1", "dots(2) = 1 1 1", "rows 1 0 9", "marks 1 0 1", "dots(3) = 1 1 9");
        test("2 the LEVEL of a DOT with a MARK is its HEIGHT", "rows 9 0 5", "marks 1 2 0", "dots(3) = 9 0 5", "dots(4) = 0 0 1");
    }

    private static void theDams() {
        test("2 a DAM: NEIGHBOURS of more than one BASIN", "rows 0 7 0", "marks 1 0 2", "dots(2) = 1 0 2", "dots(3) = 0 7 0",
            "dots(4) = 0 1 0", "count(6) = 1");
        test("2 no DAM: NEIGHBOURS of one BASIN, from two sides", "rows 0 7 0", "marks 1 0 1", "dots(2) = 1 1 1", "count(6) = 0");
        test("2 no DAM: BASINS lie beside each other", "rows 0 7", "marks 1 2", "dots(2) = 1 2", "count(6) = 0");
        test("2 a DAM of four BASINS", "rows 9 0 9 / 0 5 0 / 9 0 9", "marks 0 1 0 / 2 0 3 / 0 4 0",
            "dots(2) = 0 1 0 / 2 0 3 / 0 4 0", "dots(4) = 3 0 2 / 0 1 0 / 4 0 5", "pass(1, 4) = 5", "pass(2, 3) = 5",
            "pass(1, 2) = 5", "pass(3, 4) = 5");
        test("2 a DAM beside it is of none", "rows 0 0 0 / 5 5 9", "marks 1 0 2 / 0 0 0", "dots(2) = 1 0 2 / 1 1 0",
            "dots(4) = 0 1 0 / 2 3 4", "dots(3) = 0 0 0 / 5 5 9");
        test("2 by a DAM none comes into THE LINE", "land(3, 3) = 1", "marks 0 0 1 / 0 2 0 / 3 0 0",
            "dots(2) = . 0 1 / 0 2 0 / 3 0 .", "dots(3) = . 0 0 / 0 0 0 / 0 0 .", "dots(4) = . 2 0 / 4 0 1 / 0 3 .",
            "count(6) = 4", "count(4) = 3");
        test("2 as many BASINS as there are numbers", concat(lines("land(12, 12) = 1"), everyMark(), lines("count(3) = 99",
            "count(4) = 99", "count(5) = 99", "count(11) = 98", "dot(0, 0, 2) = 1", "dot(2, 8, 2) = 99", "basin(99, 0) = 4",
            "basin(1, 0) = 1")));
    }

    private static void thePasses() {
        test("3 PASS: the HEIGHT of a DAM, not its LEVEL", "rows 9 2 8", "marks 1 0 2", "dots(3) = 9 9 8", "pass(1, 2) = 2");
        test("3 PASS: the least of the DAMS", "rows 0 7 0 / 0 6 0 / 0 8 0", "marks 1 0 2 / 0 0 0 / 0 0 0",
            "dots(2) = 1 0 2 / 1 0 2 / 1 0 2", "pass(1, 2) = 6", "pass(2, 1) = 6");
        test("3 PASS: the greater HEIGHT of the two", "rows 3 8", "marks 1 2", "pass(1, 2) = 8", "pass(2, 1) = 8");
        test("3 PASS: the greater HEIGHT, one above the other", "rows 8 / 3", "marks 1 / 2", "pass(1, 2) = 8", "pass(2, 1) = 8");
        test("3 PASS: of both HEIGHTS 0 and 99", "rows 0 0", "marks 1 2", "pass(1, 2) = 0", "put(1, 0, 99) = 1", "pass(1, 2) = 99");
        test("3 PASS: the least of DAMS and of DOTS beside each other", "rows 1 9 1 / 1 4 4", "marks 1 0 2 / 1 1 2",
            "dots(2) = 1 0 2 / 1 1 2", "pass(1, 2) = 4", "put(2, 1, 12) = 2", "pass(1, 2) = 9");
        test("3 PASS: none, if no such number is", "rows 0 5 0 5 0", "marks 1 0 2 0 3", "pass(1, 3) = NONE", "pass(3, 1) = NONE",
            "pass(1, 2) = 5");
        test("3 PASS: a DAM counts for those beside it alone", "rows 0 5 0 9", "marks 9 0 5 1", "pass(9, 1) = NONE", "basin(9) = 1 5 5 0 5 5",
            "pass(9, 5) = 5");
        test("3 PASS: a DAM that is the last DOT of the greatest land", "land(12, 12) = 1", "put(11, 11, 7) = 1", "mark(10, 11, 1) = 0",
            "mark(11, 10, 2) = 0", "dot(11, 11, 2) = 0", "pass(1, 2) = 0", "count(7) = 12", "bound(0, 2000) = 1", "dot(11, 11, 5) = 2");
        test("3 PASS: a DAM of a greater land that was before is none", "rows 0 9 0 9 0", "marks 1 0 2 0 1", "pass(1, 2) = 9", "rows 0 9 0",
            "marks 1 0 2", "pass(1, 2) = 9", "basin(1) = 1 9 9 0 9 2", "count(6) = 1");
        test("3 WAY OUT: of the least PASS", "rows 0 5 0 4 0", "marks 1 0 2 0 3", "basin(2) = 1 4 4 0 4 3");
        test("3 WAY OUT: of one PASS the least number", "rows 0 5 0 5 0", "marks 9 0 2 0 3", "basin(2, 5) = 3",
            "mark(0, 0, 1) = 9", "basin(2, 5) = 1");
        test("3 WAY OUT: none, of the only BASIN", "rows 0 5 0", "mark(0, 0, 1) = 0", "basin(1) = 3 0 0 0 . .");
    }

    private static void theSizes() {
        test("3 SIZE 0: the least and the greatest", "land(12, 12) = 1", "mark(11, 11, 3) = 0", "basin(3, 0) = 144",
            "marks 1", "mark(1, 0, 2) = 0", "mark(0, 1, 2) = 0", "basin(1, 0) = 1");
        test("3 DEPTH: 0 if below 0", "rows 9 2 8", "marks 1 0 2", "basin(1) = 1 0 0 9 2 2", "basin(2) = 1 0 0 8 2 1");
        test("3 DEPTH: of just 0 and of 1", "rows 5 5 4", "marks 1 0 2", "basin(1) = 1 0 0 5 5 2", "basin(2) = 1 1 1 4 5 1");
        test("3 DEPTH: the greatest", "rows 0 99 0", "marks 1 0 2", "basin(1) = 1 99 99 0 99 2");
        test("3 DEPTH and WATER: by the least PASS of several", "rows 0 9 0 4 0", "marks 1 0 2 0 3", "basin(2) = 1 4 4 0 4 3",
            "basin(1) = 1 9 9 0 9 2");
        test("3 WATER: DOTS at the PASS and above it hold none", "rows 7 4 1 4 0", "marks 6 6 6 0 5", "basin(6) = 3 3 3 1 4 5");
        test("3 WATER: all added", "rows 0 1 2 5 0", "marks 1 1 1 0 2", "basin(1) = 3 5 12 0 5 2");
        test("3 WATER: far above the greatest BOUND", "land(12, 12) = 1", "put(10, 11, 99) = 1", "put(11, 10, 99) = 2",
            "mark(0, 0, 1) = 0", "mark(11, 11, 2) = 0", "basin(1) = 141 99 13959 0 99 2", "basin(2) = 1 99 99 0 99 1",
            "bound(2, 2000) = 1", "poured = 2 1 99 2");
        test("3 DEPTH and WATER: 0 if there is no PASS", "rows 0 50 1", "marks 8 0 0", "basin(8) = 3 0 0 0 . .");
    }

    private static void thePour() {
        test("3 POUR: the least PASS first, though its number is greater", "rows 0 6 0 5 0 6 0", "marks 1 0 2 0 3 0 4",
            "bound(0, 2) = 3", "poured = 2 3 5 1 / 1 3 6 1 / 4 3 6 1");
        test("3 POUR: of one PASS the least number", "rows 0 5 0 5 0", "marks 3 0 1 0 2", "tree = 1 2 5 1 / 2 3 5 1");
        test("3 POUR: one that is not below the bound is passed over, though its PASS is less", "rows 0 2 0 0 5 0",
            "marks 1 1 0 0 0 2", "dots(2) = 1 1 1 1 0 2", "bound(0, 2) = 1", "poured = 2 1 5 1");
        test("3 POUR: into its WAY OUT, however small that is", "rows 0 0 5 0", "marks 1 1 0 9", "bound(0, 3) = 1",
            "poured = 1 9 5 1", "dots(5) = 9 9 9 9");
        test("3 POUR: SIZES are found anew each time", "rows 0 3 0 4 0 5 0", "marks 1 0 2 0 3 0 4", "bound(0, 2) = 3",
            "poured = 1 2 3 1 / 3 2 4 1 / 4 2 5 1", "dots(5) = 2 2 2 2 2 2 2", "bound(0, 4) = 3", "poured = 1 2 3 1 / 2 3 4 1 / 4 3 5 1");
        test("3 POUR: a DAM between BASINS that are left stays", "rows 0 3 0 4 0", "marks 1 0 2 0 3", "bound(1, 4) = 1",
            "poured = 1 2 3 1", "dots(5) = 2 2 2 0 3", "count(7) = 1", "count(6) = 2", "pass(2, 3) = 4");
        test("3 POUR: a DAM of three BASINS stays until two of them are one", "rows 9 0 9 / 0 7 0", "marks 0 1 0 / 2 0 3",
            "count(6) = 3", "tree = 1 2 7 1 / 2 3 7 2");
        test("3 POUR: no DAM went, as there is none", "rows 1 2 3", "marks 1 2 3", "tree = 1 2 2 0 / 2 3 3 0");
        test("3 POUR: more DAMS went at once", "rows 0 5 0 / 0 5 0 / 0 5 0", "marks 1 0 2 / 1 0 2 / 1 0 2", "bound(0, 2000) = 1",
            "poured = 1 2 5 3", "dots(5) = 2 2 2 / 2 2 2 / 2 2 2", "count(7) = 0", "count(6) = 3");
        test("3 POUR: water never came to a DOT, nor does it then", "land(3, 3) = 1", "marks 0 0 1 / 0 2 0 / 3 0 0",
            "bound(0, 2000) = 2", "dots(5) = . 3 3 / 3 3 3 / 3 3 .", "basin(3, 0) = 7", "count(7) = 0");
        test("3 POUR: a DOT to which water never came is no DAM: no PASS goes over it, and it becomes of none", "rows 0 3 0 / 9 0 9 / 0 4 0",
            "marks 1 0 2 / 0 0 0 / 3 0 4", "dots(2) = 1 0 2 / 0 . 0 / 3 0 4", "bound(0, 2) = 2", "poured = 1 2 3 1 / 3 4 4 1",
            "dots(5) = 2 2 2 / 0 . 0 / 4 4 4", "pass(2, 4) = 9", "basin(2) = 3 9 24 0 9 4", "count(7) = 2", "bound(0, 4) = 3",
            "poured = 1 2 3 1 / 3 4 4 1 / 2 4 9 2", "dots(5) = 4 4 4 / 4 . 4 / 4 4 4", "basin(4) = 8 0 0 0 . .", "count(7) = 0");
        test("3 POUR: the least and the greatest number", "rows 0 0 5 0", "marks 1 1 0 99", "bound(0, 2) = 1", "poured = 99 1 5 1",
            "tree = 1 99 5 1", "rows 0 5 0 0", "marks 1 0 99 99", "bound(0, 2) = 1", "poured = 1 99 5 1");
        test("3 POUR: one number in two places goes as one", "rows 0 5 0 5 0", "marks 1 0 2 0 1", "bound(0, 2) = 1",
            "poured = 2 1 5 2", "dots(5) = 1 1 1 1 1");
    }

    private static void thePourByItsBound() {
        test("3 THE POUR at first: KIND 0, BOUND 0, nothing is POURED", "rows 0 5 0", "marks 1 0 2", "count(9) = 0",
            "count(10) = 0", "poured = ", "dots(5) = 1 0 2", "count(5) = 2", "count(7) = 1");
        test("3 SIZE 0 is less than n, as great, greater", "rows 0 0 5 0 0 0", "marks 1 1 0 2 2 2", "bound(0, 1) = 0",
            "bound(0, 2) = 0", "bound(0, 3) = 1", "poured = 1 2 5 1", "count(5) = 1");
        test("3 SIZE 1 is less than n, as great, greater", "rows 2 6 1", "marks 1 0 2", "bound(1, 3) = 0", "bound(1, 4) = 0",
            "bound(1, 5) = 1", "poured = 1 2 6 1");
        test("3 SIZE 2 is less than n, as great, greater", "rows 2 2 6 1 1", "marks 1 1 0 2 2", "bound(2, 7) = 0",
            "bound(2, 8) = 0", "bound(2, 9) = 1", "poured = 1 2 6 1");
        test("3 n 0: nothing is POURED, though SIZES are 0", "rows 9 2 8", "marks 1 0 2", "bound(1, 0) = 0", "bound(2, 0) = 0",
            "bound(0, 0) = 0", "bound(1, 1) = 1", "bound(2, 1) = 1", "poured = 1 2 2 1");
        test("3 DEPTH of 99", "rows 0 99 0", "marks 1 0 2", "bound(1, 99) = 0", "bound(1, 100) = 1");
        test("3 WATER of just the greatest BOUND, and less by one", "rows 0 0 0 0 79 99 0 0 0 0 0 0 / 0 0 0 0 99 99 0 0 0 0 0 0 "
            + "/ 0 0 0 0 99 99 0 0 0 0 0 0 / 0 0 0 0 99 99 0 0 0 0 0 0 / 0 0 0 0 99 99 0 0 0 0 0 0", "mark(0, 0, 1) = 0",
            "mark(11, 4, 2) = 0", "basin(1, 2) = 2000", "basin(2, 2) = 2970", "bound(2, 2000) = 0", "put(4, 0, 80) = 2",
            "count(5) = 1", "poured = 1 2 99 5", "bound(2, 1999) = 0", "basin(1, 2) = 1999");
        test("3 POUR: one BASIN alone has no WAY OUT", "rows 0 5 0", "marks 1 0 0", "bound(0, 2000) = 0", "bound(1, 2000) = 0",
            "bound(2, 2000) = 0", "count(5) = 1", "poured = ");
        test("3 POUR: it goes on until one is left", concat(lines("land(12, 12) = 1"), everyMark(), lines("bound(0, 2000) = 98",
            "count(5) = 1", "count(7) = 0", "poured(97, 0) = 98", "poured(97, 1) = 99", "poured(98, 0) = NONE")));
    }

    private static void theTree() {
        test("3 THE TREE: whatever their SIZES", "rows 0 0 99 0 0", "marks 1 1 0 2 2", "bound(0, 0) = 0", "tree = 1 2 99 1",
            "count(11) = 1", "poured = ");
        test("3 THE TREE: whatever THE POUR does", "rows 0 3 0 4 0", "marks 1 0 2 0 3", "tree = 1 2 3 1 / 2 3 4 1",
            "bound(1, 4) = 1", "poured = 1 2 3 1", "tree = 1 2 3 1 / 2 3 4 1", "bound(0, 2) = 2", "poured = 1 2 3 1 / 3 2 4 1",
            "tree = 1 2 3 1 / 2 3 4 1", "count(11) = 2", "dots(5) = 2 2 2 2 2");
        test("3 THE TREE: no BASIN, one BASIN", "land(2, 1) = 1", "count(11) = 0", "tree = ", "mark(0, 0, 5) = 0",
            "count(11) = 0", "tree = ", "mark(1, 0, 4) = 0", "count(11) = 1", "tree = 4 5 0 0");
    }

    /** Everything is asked before and after each call that changes something. */
    private static void allIsFoundAnew() {
        test("land: all goes by it", asked("land(3, 1) = 1", "dots(2) = . . .", "dots(5) = . . .", "count = 3 1 1 0 0 0 0 0 . 0 2 0 0",
            "poured = ", "tree = ", "basin(1, 0) = UNKNOWN", "pass(1, 2) = UNKNOWN"));
        test("wave: all goes by it", asked("wave(1, 0, 0, 2) = 2", "dots(2) = 1 0 2", "count(8) = 1", "poured = 1 2 1 1", "tree = 1 2 1 1",
            "basin(2) = 3 0 0 0 . ."));
        test("heap: all goes by it", asked("heap(1, 0, 9, 9) = 2", "dots(3) = 0 14 0", "count(8) = 14", "poured = 1 2 14 1", "tree = 1 2 14 1"));
        test("put: all goes by it", asked("put(1, 0, 4) = 2", "dots(3) = 0 4 0", "count(8) = 4", "poured = 1 2 4 1", "tree = 1 2 4 1"));
        test("mark: all goes by it", asked("mark(1, 0, 3) = 0", "dots(2) = 1 3 2", "dots(5) = 3 3 3", "count(6) = 0", "poured = 1 3 5 0 / 2 3 5 0",
            "tree = 1 3 5 0 / 2 3 5 0", "basin(3, 0) = 3"));
        test("pits: all goes by it", asked("mark(2, 0, 0) = 2", "dots(2) = 1 1 1", "dots(5) = 1 1 1", "tree = ", "pits() = 2", "dots(2) = 1 0 2",
            "dots(5) = 2 2 2", "count(6) = 1", "poured = 1 2 5 1", "tree = 1 2 5 1"));
        test("bound: all goes by it", asked("bound(0, 1) = 0", "dots(5) = 1 0 2", "count(5) = 2", "count(7) = 1", "poured = ", "tree = 1 2 5 1",
            "basin(1) = 1 5 5 0 5 2", "pass(1, 2) = 5"));
        test("restore: all goes by it", asked("image(0) = 1", "rows 4 4", "marks 6 6", "dots(5) = 6 6", "tree = ", "restore(0) = 1",
            "dots(2) = 1 0 2", "dots(5) = 2 2 2", "poured = 1 2 5 1", "tree = 1 2 5 1"));
    }

    // ---- the document's sentences: promises

    private static void newObject() {
        test("P1 eight by eight DOTS, HEIGHTS 0, no MARK", "count(0) = 8", "count(1) = 8", "count(2) = 1", "count(3) = 0",
            "dots(0) = 0 0 0 0 0 0 0 0 / 0 0 0 0 0 0 0 0 / 0 0 0 0 0 0 0 0 / 0 0 0 0 0 0 0 0 "
            + "/ 0 0 0 0 0 0 0 0 / 0 0 0 0 0 0 0 0 / 0 0 0 0 0 0 0 0 / 0 0 0 0 0 0 0 0");
        test("P1 no IMAGE is kept", "count(12) = 0", "restore(0) = STATE", "restore(1) = STATE");
        test("P1 another object is as new, whatever was done", "count(9) = 0", "count(10) = 0", "count(8) = NONE",
            "wet(0, 0, 0) = 64 0 .");
    }

    private static void land() {
        test("P2 the least and the greatest", "land(1, 12) = 1", "count(0) = 1", "count(1) = 12", "land(12, 1) = 1",
            "count(0) = 12", "count(1) = 1", "land(1, 1) = 1", "land(12, 12) = 1");
        test("P2 OUTSIDE: wide", kept("land({0, -1, 13, MIN, MAX}, 3) ! OUTSIDE", "land(0, 1) ! OUTSIDE", "land(13, 12) ! OUTSIDE"));
        test("P2 OUTSIDE: high", kept("land(4, {0, -1, 13, MIN, MAX}) ! OUTSIDE", "land(1, 0) ! OUTSIDE", "land(12, 13) ! OUTSIDE"));
        test("P2 OUTSIDE: both at once", kept("land({0, 13}, {0, 13}) ! OUTSIDE"));
        test("P2 HEIGHTS are 0, there is no MARK", "rows 5 6 / 7 8", "marks 1 2 / 3 4", "land(2, 2) = 1", "dots(0) = 0 0 / 0 0",
            "dots(1) = 0 0 / 0 0", "dots(2) = . . / . .", "count(2) = 1", "count(3) = 0");
        test("P2 no HEIGHT and no MARK comes back with a greater land", "rows 5 6 / 7 8", "marks 1 2 / 3 4", "land(1, 1) = 1",
            "land(2, 2) = 1", "dots(0) = 0 0 / 0 0", "dots(1) = 0 0 / 0 0", "land(3, 3) = 1", "dots(0) = 0 0 0 / 0 0 0 / 0 0 0",
            "dots(1) = 0 0 0 / 0 0 0 / 0 0 0");
        test("P2 nothing else changes: KIND, BOUND and IMAGES stay", "rows 5 6", "marks 1 2", "bound(2, 30) = 1", "image(1) = 1",
            "land(2, 1) = 1", "count(9) = 2", "count(10) = 30", "count(12) = 2", "restore(0) = STATE", "restore(1) = 1", "dots(0) = 5 6",
            "dots(1) = 1 2", "count(9) = 2", "count(10) = 30");
        test("P2 NEIGHBOURS are those of the new land", "rows 0 9 0 / 9 9 9", "land(2, 3) = 1", "mark(0, 0, 1) = 0",
            "dots(4) = 0 1 / 2 3 / 4 5", "land(6, 1) = 1", "mark(0, 0, 1) = 0", "dots(4) = 0 1 2 3 4 5");
    }

    private static void wave() {
        test("P3 a, b, c: the least", "rows 5 6 / 7 8", "wave(0, 0, 0, 100) = 1", "dots(0) = 0 0 / 0 0");
        test("P3 a: the greatest", "land(2, 2) = 1", "wave(50, 0, 0, 100) = 1", "dots(0) = 0 50 / 0 50");
        test("P3 b: the greatest", "land(2, 2) = 1", "wave(0, 50, 0, 100) = 1", "dots(0) = 0 0 / 50 50");
        test("P3 c: the greatest", "land(2, 2) = 1", "wave(0, 0, 50, 100) = 1", "dots(0) = 0 0 / 0 50");
        test("P3 all the greatest, on the greatest land", "land(12, 12) = 1", "wave(50, 50, 50, 99) = 36", "dot(11, 11, 0) = 22",
            "dot(11, 10, 0) = 16", "dot(1, 0, 0) = 50", "dot(1, 1, 0) = 51");
        test("P3 m: the least", "rows 5 6 / 7 8", "wave(7, 8, 9, 1) = 1", "dots(0) = 0 0 / 0 0");
        test("P3 what is left by m: below it, just it, above it", "land(4, 1) = 1", "wave(3, 0, 0, 6) = 2", "dots(0) = 0 3 0 3",
            "wave(33, 0, 0, 100) = 1", "dots(0) = 0 33 66 99", "wave(50, 0, 0, 100) = 2", "dots(0) = 0 50 0 50");
        test("P3 OUTSIDE: a", kept("wave({-1, 51, MIN, MAX}, 1, 1, 9) ! OUTSIDE"));
        test("P3 OUTSIDE: b", kept("wave(1, {-1, 51, MIN, MAX}, 1, 9) ! OUTSIDE"));
        test("P3 OUTSIDE: c", kept("wave(1, 1, {-1, 51, MIN, MAX}, 9) ! OUTSIDE"));
        test("P3 OUTSIDE: m", kept("wave(1, 1, 1, {0, -1, 101, MIN, MAX}) ! OUTSIDE"));
        test("P3 OUTSIDE: several at once", kept("wave({-1, 51}, {-1, 51}, {-1, 51}, {0, 101}) ! OUTSIDE"));
        test("P3 MARKS stay", "rows 5 6 / 7 8", "marks 1 0 / 0 99", "wave(1, 2, 0, 9) = 1", "dots(1) = 1 0 / 0 99");
        test("P3 a land of one DOT", "land(1, 1) = 1", "put(0, 0, 99) = 1", "wave(50, 50, 50, 100) = 1", "dots(0) = 0");
    }

    private static void heap() {
        test("P4 n: the greatest, step the least", "rows 0 1 / 0 0", "heap(0, 0, 99, 0) = 1", "dots(0) = 99 99 / 99 99");
        test("P4 n: the least, step the least", "rows 99 98 / 0 1", "heap(1, 1, -99, 0) = 1", "dots(0) = 0 0 / 0 0");
        test("P4 n 0: nothing becomes greater or less", "rows 5 6 / 7 8", "heap(0, 0, 0, 0) = 1", "dots(0) = 5 6 / 7 8",
            "heap(1, 1, 0, 50) = 1", "dots(0) = 5 6 / 7 8");
        test("P4 n 1 and -1", "rows 5 6 / 7 8", "heap(1, 1, 1, 1) = 1", "dots(0) = 5 6 / 7 9", "heap(0, 0, -1, 1) = 1",
            "dots(0) = 4 6 / 7 9");
        test("P4 step: the greatest", "land(3, 2) = 1", "heap(0, 0, 99, 50) = 1", "dots(0) = 99 49 0 / 49 0 0",
            "heap(0, 0, -99, 50) = 1", "dots(0) = 0 0 0 / 0 0 0");
        test("P4 if that is above 0: 1, 0, below 0", "rows 9 9 9 9 9", "heap(0, 0, 5, 2) = 1", "dots(0) = 14 12 10 9 9",
            "heap(0, 0, 4, 2) = 1", "dots(0) = 18 14 10 9 9");
        test("P4 of an n below 0, if that is above 0: 1, 0, below 0", "rows 9 9 9 9 9", "heap(4, 0, -5, 2) = 1",
            "dots(0) = 9 9 8 6 4", "heap(4, 0, -4, 2) = 1", "dots(0) = 9 9 8 4 0");
        test("P4 below 0 it is 0", "rows 4 5 6", "heap(1, 0, -5, 0) = 1", "dots(0) = 0 0 1");
        test("P4 above 99 it is 99", "rows 89 90 91", "heap(1, 0, 9, 0) = 1", "dots(0) = 98 99 99");
        test("P4 steps go along x and along y", "rows 0 0 0 / 0 0 0 / 0 0 0", "heap(0, 2, 9, 2) = 1", "dots(0) = 5 3 1 / 7 5 3 / 9 7 5");
        test("P4 steps on the greatest land", "land(12, 12) = 1", "heap(0, 0, 99, 4) = 1", "dot(11, 11, 0) = 11",
            "heap(11, 11, 23, 1) = 1", "dot(0, 0, 0) = 99", "dot(1, 0, 0) = 97", "dot(11, 11, 0) = 34");
        test("P4 OUTSIDE: (x, y) is no DOT", kept("heap({-1, 4, MIN, MAX}, 0, 5, 1) ! OUTSIDE", "heap(0, {-1, 3, MIN, MAX}, 5, 1) ! OUTSIDE"));
        test("P4 the last DOT is one", kept("heap(3, 2, 0, 0) = 3", "heap(0, 2, 0, 0) = 3", "heap(3, 0, 0, 0) = 3"));
        test("P4 OUTSIDE: n", kept("heap(0, 0, {-100, 100, MIN, MAX}, 1) ! OUTSIDE"));
        test("P4 OUTSIDE: step", kept("heap(0, 0, 5, {-1, 51, MIN, MAX}) ! OUTSIDE", "heap(0, 0, -5, {-1, 51}) ! OUTSIDE"));
        test("P4 OUTSIDE: several at once", kept("heap({-1, 4}, {-1, 3}, {-100, 100}, {-1, 51}) ! OUTSIDE"));
        test("P4 MARKS stay", "rows 5 6 / 7 8", "marks 1 0 / 0 99", "heap(0, 0, 9, 1) = 1", "dots(1) = 1 0 / 0 99");
    }

    private static void put() {
        test("P5 n: the least and the greatest", "rows 5 6 / 7 8", "put(1, 1, 0) = 2", "put(0, 0, 99) = 1", "dots(0) = 99 6 / 7 0");
        test("P5 OUTSIDE: it is no DOT", kept("put({-1, 4, MIN, MAX}, 0, 5) ! OUTSIDE", "put(0, {-1, 3, MIN, MAX}, 5) ! OUTSIDE"));
        test("P5 the last DOT is one", "land(4, 3) = 1", "put(3, 2, 5) = 1", "dots(0) = 0 0 0 0 / 0 0 0 0 / 0 0 0 5",
            "put(0, 2, 6) = 1", "put(3, 0, 7) = 1", "dots(0) = 0 0 0 7 / 0 0 0 0 / 6 0 0 5");
        test("P5 OUTSIDE: n", kept("put(0, 0, {-1, 100, MIN, MAX}) ! OUTSIDE"));
        test("P5 OUTSIDE: several at once", kept("put({-1, 4}, {-1, 3}, {-1, 100}) ! OUTSIDE"));
        test("P5 the HEIGHT that it had", "rows 5 6 / 7 8", "put(0, 0, 5) = 1", "dots(0) = 5 6 / 7 8");
        test("P5 MARKS stay", "rows 5 6 / 7 8", "marks 1 0 / 0 99", "put(0, 0, 9) = 2", "put(0, 1, 3) = 2", "dots(1) = 1 0 / 0 99");
    }

    private static void mark() {
        test("P6 b: none, the least, the greatest; which it was", "land(2, 1) = 1", "mark(1, 0, 0) = 0", "mark(1, 0, 1) = 0",
            "mark(1, 0, 99) = 1", "mark(1, 0, 99) = 99", "dots(1) = 0 99", "dots(2) = 99 99", "mark(1, 0, 0) = 99", "mark(1, 0, 0) = 0",
            "dots(1) = 0 0", "dots(2) = . .");
        test("P6 OUTSIDE: it is no DOT", kept("mark({-1, 4, MIN, MAX}, 0, 5) ! OUTSIDE", "mark(0, {-1, 3, MIN, MAX}, 5) ! OUTSIDE"));
        test("P6 the last DOT is one", "land(4, 3) = 1", "mark(3, 2, 5) = 0", "mark(0, 2, 6) = 0", "mark(3, 0, 7) = 0",
            "dots(1) = 0 0 0 7 / 0 0 0 0 / 6 0 0 5");
        test("P6 OUTSIDE: b", kept("mark(0, 0, {-1, 100, MIN, MAX}) ! OUTSIDE"));
        test("P6 OUTSIDE: several at once", kept("mark({-1, 4}, {-1, 3}, {-1, 100}) ! OUTSIDE"));
        test("P6 every DOT of the greatest land", concat(lines("land(12, 12) = 1"), everyMark(), lines("mark(11, 11, 99) = 0",
            "count(3) = 100", "count(4) = 99", "mark(11, 11, 0) = 99", "count(3) = 99")));
    }

    private static void pits() {
        test("P7 all MARKS go", "rows 5 0 5", "marks 9 8 7", "pits() = 1", "dots(1) = 0 1 0");
        test("P7 all DOTS are one PIT", "pits() = 1", "count(3) = 64", "dot(0, 0, 1) = 1", "dot(7, 7, 1) = 1", "count(4) = 1");
        test("P7 as many PITS as there can be", "land(12, 12) = 1", "wave(1, 1, 0, 2) = 72", "pits() = 72", "dot(0, 0, 1) = 1",
            "dot(10, 0, 1) = 6", "dot(1, 1, 1) = 7", "dot(11, 11, 1) = 72", "dot(1, 0, 1) = 0");
        test("P7 PITS go by their first DOTS", "rows 5 9 0 / 9 9 0 / 0 0 0", "pits() = 2", "dots(1) = 1 0 2 / 0 0 2 / 2 2 2",
            "rows 9 0 9 / 0 9 9 / 9 9 1", "pits() = 3", "dots(1) = 0 1 0 / 2 0 0 / 0 0 3");
        test("P7 once more: the same", "rows 0 5 1", "pits() = 2", "pits() = 2", "dots(1) = 1 0 2");
    }

    private static void dot() {
        test("P8 OUTSIDE: it is no DOT", kept("dot({-1, 4, MIN, MAX}, 0, {0, 5}) ! OUTSIDE", "dot(0, {-1, 3, MIN, MAX}, {0, 5}) ! OUTSIDE"));
        test("P8 OUTSIDE: what", kept("dot(0, 0, {-1, 6, MIN, MAX}) ! OUTSIDE"));
        test("P8 OUTSIDE: several at once", kept("dot({-1, 4}, {-1, 3}, {-1, 6}) ! OUTSIDE"));
        test("P8 what: the least and the greatest", kept("dot(3, 2, 0) = 6", "dot(3, 2, 1) = 3", "dot(3, 2, 2) = 3", "dot(3, 2, 3) = 6",
            "dot(3, 2, 4) = 0", "dot(3, 2, 5) = 3"));
        test("P8 0: it is a DAM; NONE: water never came", "land(3, 3) = 1", "marks 0 0 1 / 0 2 0 / 3 0 0", "dot(1, 0, 2) = 0",
            "dot(0, 0, 2) = NONE", "dot(0, 0, 3) = NONE", "dot(0, 0, 4) = NONE", "dot(1, 0, 5) = 0", "dot(0, 0, 5) = NONE",
            "dot(1, 0, 3) = 0", "dot(1, 0, 4) = 2");
        test("P8 0: it has a MARK; from 1 on", "land(2, 2) = 1", "mark(0, 1, 5) = 0", "dots(4) = 2 3 / 0 1");
        test("P8 whose it is by THE FLOOD stays, when all is POURED", "rows 0 5 0", "marks 1 0 2", "bound(0, 9) = 1",
            "dots(2) = 1 0 2", "dots(5) = 2 2 2");
    }

    private static void bound() {
        test("P9 k: the least and the greatest", "bound(0, 7) = 0", "count(9) = 0", "bound(2, 7) = 0", "count(9) = 2",
            "bound(1, 7) = 0", "count(9) = 1", "count(10) = 7");
        test("P9 n: the least and the greatest", "bound(1, 2000) = 0", "count(10) = 2000", "bound(1, 0) = 0", "count(10) = 0");
        test("P9 OUTSIDE: k", kept("bound({-1, 3, MIN, MAX}, 5) ! OUTSIDE"));
        test("P9 OUTSIDE: n", kept("bound(1, {-1, 2001, MIN, MAX}) ! OUTSIDE"));
        test("P9 OUTSIDE: both at once", kept("bound({-1, 3}, {-1, 2001}) ! OUTSIDE"));
        test("P9 no BASIN: none is POURED", "bound(0, 2000) = 0", "count(5) = 0");
        test("P9 it goes on for MARKS and HEIGHTS that come later", "land(3, 1) = 1", "bound(1, 5) = 0", "put(1, 0, 4) = 2",
            "marks 1 0 2", "count(5) = 1", "put(1, 0, 5) = 2", "count(5) = 2", "land(3, 1) = 1", "count(9) = 1", "count(10) = 5");
    }

    private static void basin() {
        test("P10 UNKNOWN: no such number", kept("basin({0, -1, 100, MIN, MAX, NONE}, {0, 5}) ! UNKNOWN"));
        test("P10 UNKNOWN: no DOT is of it", kept("basin({4, 99}, {0, 5}) ! UNKNOWN"));
        test("P10 UNKNOWN: it was POURED", kept("basin(1, {0, 3, 5}) ! UNKNOWN", "bound(0, 0) = 0", "basin(1, 0) = 3"));
        test("P10 UNKNOWN: no MARK is left", kept("mark(3, 2, 0) = 3", "basin(3, 0) ! UNKNOWN"));
        test("P10 OUTSIDE: what", kept("basin(2, {-1, 6, MIN, MAX}) ! OUTSIDE"));
        test("P10 UNKNOWN goes before OUTSIDE", kept("basin({0, 1, 4, 100}, {-1, 6}) ! UNKNOWN"));
        test("P10 the least and the greatest number", "rows 0 5 1", "marks 1 0 99", "basin(1) = 1 5 5 0 5 99", "basin(99) = 1 4 4 1 5 1");
        test("P10 the only DOT, all DOTS", "land(1, 1) = 1", "mark(0, 0, 1) = 0", "basin(1) = 1 0 0 0 . .", "land(12, 12) = 1",
            "mark(0, 0, 1) = 0", "basin(1) = 144 0 0 0 . .");
        test("P10 the least HEIGHT: 0 and 99", "rows 99 99 0", "marks 1 0 2", "basin(1, 3) = 99", "basin(2, 3) = 0");
        test("P10 NONE, when all else is POURED", "rows 0 5 0", "marks 1 0 2", "basin(2, 4) = 5", "bound(0, 9) = 1", "basin(2) = 3 0 0 0 . .");
    }

    private static void pass() {
        test("P11 UNKNOWN: the first one", kept("pass({0, -1, 1, 4, 99, 100, MIN, MAX, NONE}, 2) ! UNKNOWN"));
        test("P11 UNKNOWN: the other one", kept("pass(2, {0, -1, 1, 4, 99, 100, MIN, MAX, NONE}) ! UNKNOWN"));
        test("P11 UNKNOWN: both", kept("pass({0, 4, 100}, {1, 99}) ! UNKNOWN"));
        test("P11 OUTSIDE: they are one", kept("pass(2, 2) ! OUTSIDE", "pass(3, 3) ! OUTSIDE"));
        test("P11 UNKNOWN goes before OUTSIDE", kept("pass(0, 0) ! UNKNOWN", "pass(4, 4) ! UNKNOWN", "pass(1, 1) ! UNKNOWN"));
        test("P11 the least and the greatest number", "rows 0 99 0", "marks 99 0 1", "pass(1, 99) = 99", "pass(99, 1) = 99",
            "put(1, 0, 0) = 1", "pass(1, 99) = 0");
        test("P11 NONE: there is no PASS", "rows 0 5 0 5 0", "marks 1 0 2 0 3", "pass(1, 3) = NONE", "pass(3, 1) = NONE");
        test("P11 when all is POURED", "rows 0 3 0 5 0", "marks 1 0 2 0 3", "bound(1, 4) = 1", "pass(2, 3) = 5", "pass(1, 3) = UNKNOWN",
            "bound(0, 0) = 0", "pass(1, 3) = NONE");
        test("P11 DAMS that are left, not those that went", "rows 0 2 0 5 0", "marks 1 0 2 0 3", "bound(0, 2) = 2", "basin(2) = 5 0 0 0 . .");
    }

    private static void poured() {
        test("P12 NONE: i below 0 and after the last", kept("poured({-1, 1, 2, 99, 144, MIN, MAX}, {0, 1, 2, 3}) ! NONE"));
        test("P12 OUTSIDE: what", kept("poured(0, {-1, 4, MIN, MAX}) ! OUTSIDE"));
        test("P12 OUTSIDE goes before NONE", kept("poured({-1, 1, MIN, MAX}, {-1, 4}) ! OUTSIDE"));
        test("P12 what: the least and the greatest", kept("poured(0, 0) = 1", "poured(0, 1) = 2", "poured(0, 2) = 3", "poured(0, 3) = 3"));
        test("P12 nothing is POURED", "poured({0, -1}, {0, 1, 2, 3}) ! NONE", "poured(0, {-1, 4}) ! OUTSIDE");
        test("P12 the last one of as many as there can be", concat(lines("land(12, 12) = 1"), everyMark(), lines("bound(0, 2000) = 98",
            "poured(97, 0) = 98", "poured(97, 2) = 0", "poured(98, 0) = NONE", "poured(99, 3) = NONE")));
    }

    private static void tree() {
        test("P13 NONE: i below 0 and after the last", kept("tree({-1, 2, 3, 99, 144, MIN, MAX}, {0, 1, 2, 3}) ! NONE"));
        test("P13 OUTSIDE: what", kept("tree(0, {-1, 4, MIN, MAX}) ! OUTSIDE"));
        test("P13 OUTSIDE goes before NONE", kept("tree({-1, 2, MIN, MAX}, {-1, 4}) ! OUTSIDE"));
        test("P13 what: the least and the greatest", kept("tree(1, 0) = 2", "tree(1, 1) = 3", "tree(1, 2) = 8", "tree(1, 3) = 1"));
        test("P13 nothing is POURED", "tree({0, -1}, {0, 1, 2, 3}) ! NONE", "tree(0, {-1, 4}) ! OUTSIDE");
        test("P13 the last one of as many as there can be", concat(lines("land(12, 12) = 1"), everyMark(), lines("count(11) = 98",
            "tree(97, 0) = 98", "tree(97, 1) = 99", "tree(97, 2) = 0", "tree(98, 0) = NONE", "tree(99, 3) = NONE")));
    }

    private static void over() {
        test("P14 from a DOT to itself", "rows 99 0 7", "over(0, 0, 0, 0) = 99", "over(1, 0, 1, 0) = 0", "over(2, 0, 2, 0) = 7");
        test("P14 both themselves, too", "rows 9 0 3", "over(0, 0, 2, 0) = 9", "over(2, 0, 0, 0) = 9", "over(1, 0, 2, 0) = 3",
            "over(2, 0, 1, 0) = 3");
        test("P14 the least and the greatest number", "rows 0 99 0 0", "over(0, 0, 2, 0) = 99", "over(2, 0, 3, 0) = 0",
            "put(1, 0, 98) = 2", "over(0, 0, 2, 0) = 98", "put(1, 0, 1) = 2", "over(0, 0, 2, 0) = 1", "put(1, 0, 0) = 1", "over(0, 0, 2, 0) = 0");
        test("P14 the longest way round", "rows 0 9 0 0 0 / 0 9 0 9 0 / 0 9 0 9 0 / 0 9 1 9 0 / 0 0 0 9 0", "over(0, 0, 4, 4) = 1",
            "put(2, 3, 0) = 1", "over(0, 0, 4, 4) = 0", "put(2, 3, 9) = 2", "over(0, 0, 4, 4) = 9");
        test("P14 OUTSIDE: the first is no DOT", kept("over({-1, 4, MIN, MAX}, 0, 0, 0) ! OUTSIDE", "over(0, {-1, 3, MIN, MAX}, 0, 0) ! OUTSIDE"));
        test("P14 OUTSIDE: the other is no DOT", kept("over(0, 0, {-1, 4, MIN, MAX}, 0) ! OUTSIDE", "over(0, 0, 0, {-1, 3, MIN, MAX}) ! OUTSIDE"));
        test("P14 OUTSIDE: both at once", kept("over({-1, 4}, {-1, 3}, {-1, 4}, {-1, 3}) ! OUTSIDE"));
        test("P14 the last DOT is one", "land(4, 3) = 1", "put(3, 2, 5) = 1", "over(3, 2, 0, 0) = 5", "over(0, 0, 3, 2) = 5");
    }

    private static void wet() {
        test("P15 LEVEL: the least", "rows 0 0 1 0", "wet(0, 0, 0) = 2 0 1", "wet(2, 0, 0) = 0 0 .");
        test("P15 LEVEL: the greatest", "rows 0 99 1", "wet(0, 0, 99) = 3 197 .", "wet(0, 0, 98) = 1 98 99", "wet(1, 0, 99) = 3 197 .");
        test("P15 the DOT is higher than the LEVEL, just so high", "rows 5 7 5", "wet(1, 0, 6) = 0 0 .", "wet(1, 0, 7) = 3 4 .",
            "wet(0, 0, 4) = 0 0 .", "wet(0, 0, 5) = 1 0 7");
        test("P15 the least HEIGHT beside them: none, as all are", "wet(0, 0, 0) = 64 0 .", "wet(7, 7, 99) = 64 6336 .");
        test("P15 the least HEIGHT beside them, not of them", "rows 9 3 8 / 3 0 2 / 7 2 6", "wet(1, 1, 1) = 1 1 2", "wet(1, 1, 2) = 3 2 3",
            "wet(1, 1, 3) = 5 5 6", "wet(1, 1, 8) = 8 33 9");
        test("P15 as much as there can be", "land(12, 12) = 1", "wet(0, 0, 99) = 144 14256 .");
        test("P15 OUTSIDE: it is no DOT", kept("wet({-1, 4, MIN, MAX}, 0, 5, {0, 2}) ! OUTSIDE", "wet(0, {-1, 3, MIN, MAX}, 5, {0, 2}) ! OUTSIDE"));
        test("P15 OUTSIDE: the LEVEL", kept("wet(0, 0, {-1, 100, MIN, MAX}, {0, 1, 2}) ! OUTSIDE"));
        test("P15 OUTSIDE: what", kept("wet(0, 0, 5, {-1, 3, MIN, MAX}) ! OUTSIDE", "wet(0, 0, 0, {-1, 3}) ! OUTSIDE"));
        test("P15 OUTSIDE: several at once", kept("wet({-1, 4}, {-1, 3}, {-1, 100}, {-1, 3}) ! OUTSIDE"));
        test("P15 the last DOT is one", "land(4, 3) = 1", "put(3, 2, 5) = 1", "wet(3, 2, 5) = 12 55 .", "wet(3, 2, 4) = 0 0 .");
    }

    private static void count() {
        test("P16 OUTSIDE", kept("count({-1, 13, MIN, MAX}) ! OUTSIDE"));
        test("P16 of a new object", "count = 8 8 1 0 0 0 0 0 . 0 0 0 0");
        test("P16 of one DOT", "land(1, 1) = 1", "count = 1 1 1 0 0 0 0 0 . 0 0 0 0", "mark(0, 0, 99) = 0", "count = 1 1 1 1 1 1 0 0 0 0 0 0 0");
        test("P16 of the greatest land, all full", concat(lines("land(12, 12) = 1"), everyMark(), lines("bound(2, 2000) = 98", "image(0) = 1",
            "image(1) = 1", "count = 12 12 1 99 99 1 20 0 0 2 2000 98 3")));
        test("P16 before and after THE POUR", kept("count = 4 3 3 4 3 2 4 1 9 1 2 2 1"));
        test("P16 the greatest LEVEL: of a MARK, of a DAM; NONE: there is no MARK", "rows 0 7 0", "marks 1 0 2", "count(8) = 7",
            "put(0, 0, 9) = 1", "count(8) = 9", "mark(0, 0, 0) = 1", "mark(2, 0, 0) = 2", "count(8) = NONE");
        test("P16 IMAGES: none, the first, the second, both", "count(12) = 0", "image(1) = 1", "count(12) = 2", "image(0) = 1", "count(12) = 3",
            "image(0) = 1", "count(12) = 3");
        test("P16 IMAGES: the first alone", "image(0) = 1", "count(12) = 1", "image(0) = 1", "count(12) = 1");
    }

    private static void image() {
        test("P17 OUTSIDE", kept("image({-1, 2, MIN, MAX}) ! OUTSIDE"));
        test("P17 in place of what was kept there", "rows 1 2", "image(0) = 1", "rows 3 4 5", "image(0) = 1", "land(1, 1) = 1",
            "restore(0) = 1", "dots(0) = 3 4 5", "restore(1) = STATE");
        test("P17 of two IMAGES none changes the other", "rows 1 2", "image(0) = 1", "rows 3 4 5", "image(1) = 1", "restore(0) = 1",
            "dots(0) = 1 2", "restore(1) = 1", "dots(0) = 3 4 5", "image(0) = 1", "restore(1) = 1", "dots(0) = 3 4 5");
        test("P17 what was kept does not change with the land", "rows 1 2 / 3 4", "marks 1 0 / 0 2", "bound(1, 1) = 1", "image(1) = 1",
            "put(0, 0, 9) = 2", "mark(1, 0, 3) = 0", "wave(1, 1, 1, 9) = 1", "pits() = 1", "bound(2, 2000) = 0", "restore(1) = 1",
            "dots(0) = 1 2 / 3 4", "dots(1) = 1 0 / 0 2", "count(9) = 1", "count(10) = 1");
        test("P17 the least land and the greatest one", "land(1, 1) = 1", "put(0, 0, 99) = 1", "mark(0, 0, 99) = 0", "image(0) = 1",
            "land(12, 12) = 1", "put(11, 11, 98) = 1", "mark(11, 11, 1) = 0", "bound(2, 2000) = 0", "image(1) = 1", "restore(0) = 1", "count(0) = 1",
            "count(1) = 1", "dots(0) = 99", "dots(1) = 99", "dots(2) = 99", "count(9) = 0", "count(10) = 0", "dot(1, 0, 0) ! OUTSIDE",
            "restore(1) = 1", "count(0) = 12", "count(1) = 12", "dot(11, 11, 0) = 98", "dot(11, 11, 1) = 1", "dot(0, 0, 0) = 0",
            "dot(0, 0, 1) = 0", "dot(0, 0, 4) = 143", "count(9) = 2", "count(10) = 2000");
    }

    private static void restore() {
        test("P18 OUTSIDE", kept("restore({-1, 2, MIN, MAX}) ! OUTSIDE"));
        test("P18 STATE: nothing was kept in it", kept("restore(1) ! STATE"));
        test("P18 STATE: of the other one, too", "rows 1 2", "image(1) = 1", "put(0, 0, 5) = 1", "restore(0) ! STATE", "restore(1) = 1");
        test("P18 STATE: of a new object", "restore({0, 1}) ! STATE");
        test("P18 OUTSIDE, though nothing was kept", "restore({-1, 2}) ! OUTSIDE");
        test("P18 the IMAGE stays", "rows 1 2", "image(0) = 1", "land(3, 3) = 1", "restore(0) = 1", "dots(0) = 1 2", "count(12) = 1",
            "put(0, 0, 9) = 1", "restore(0) = 1", "dots(0) = 1 2", "restore(0) = 1", "dots(0) = 1 2");
        test("P18 THE FLOOD, THE POUR and THE TREE are as they were", "rows 0 3 0 4 0", "marks 1 0 2 0 3", "bound(1, 4) = 1", "image(0) = 1",
            "land(2, 2) = 1", "mark(1, 1, 9) = 0", "bound(0, 0) = 0", "dots(5) = 9 9 / 9 9", "restore(0) = 1", "dots(2) = 1 0 2 0 3",
            "dots(5) = 2 2 2 0 3", "poured = 1 2 3 1", "tree = 1 2 3 1 / 2 3 4 1", "count(2) = 3", "basin(9, 0) = UNKNOWN");
    }

    private static void whatIsRefusedChangesNothing() {
        test("what is refused changes nothing: one after the other, and all goes on as if they had not been", kept("land(0, 13) = OUTSIDE",
            "wave(51, 51, 51, 0) = OUTSIDE", "heap(4, 3, 100, 51) = OUTSIDE", "put(4, 3, 100) = OUTSIDE", "mark(4, 3, 100) = OUTSIDE",
            "dot(4, 3, 6) = OUTSIDE", "bound(3, 2001) = OUTSIDE", "basin(1, 6) = UNKNOWN", "basin(2, 6) = OUTSIDE", "pass(1, 1) = UNKNOWN",
            "pass(2, 2) = OUTSIDE", "poured(0, 4) = OUTSIDE", "tree(0, 4) = OUTSIDE", "over(4, 3, 4, 3) = OUTSIDE", "wet(4, 3, 100, 3) = OUTSIDE",
            "count(13) = OUTSIDE", "image(2) = OUTSIDE", "restore(2) = OUTSIDE", "restore(1) = STATE", "count = 4 3 3 4 3 2 4 1 9 1 2 2 1",
            "dots(0) = 2 3 1 9 / 3 9 1 8 / 5 9 8 6", "dots(1) = 1 0 2 0 / 0 0 0 0 / 0 0 2 3", "poured = 1 2 3 3", "tree = 1 2 3 3 / 2 3 8 1",
            "restore(0) = 1", "dots(0) = 7 8", "dots(1) = 0 9", "count(9) = 2", "count(10) = 1999"));
    }

    private static void theLastCall() {
        List<String> lines = new ArrayList<>(List.of(lines("land(12, 12) = 1", "wave(1, 1, 0, 2) = 72", "pits() = 72")));
        while (lines.size() < MOST_CALLS - 1) {
            lines.add(lines.size() % 2 == 0 ? "bound(0, 2) = 71" : "bound(0, 1) = 0");
        }
        lines.add("count(11) = 71");
        test("an object is used for at most 512 calls: the last of them", lines.toArray(new String[0]));
    }

    // ---- lands that several tests use

    /** Three BASINS, of which the first is POURED; an IMAGE of another land is kept, and one place is empty. */
    private static String[] kept(String... lines) {
        return concat(lines("rows 7 8", "mark(1, 0, 9) = 0", "bound(2, 1999) = 0", "image(0) = 1", "rows 2 3 1 9 / 3 9 1 8 / 5 9 8 6",
            "marks 1 0 2 0 / 0 0 0 0 / 0 0 2 3", "bound(1, 2) = 1"), lines);
    }

    /** Two BASINS and a DAM, of which all was asked already. */
    private static String[] asked(String... lines) {
        return concat(lines("rows 0 5 0", "marks 1 0 2", "bound(0, 2) = 1", "dots(2) = 1 0 2", "dots(3) = 0 5 0", "dots(5) = 2 2 2",
            "count = 3 1 2 2 2 1 1 0 5 0 2 1 0", "poured = 1 2 5 1", "tree = 1 2 5 1", "basin(2) = 3 0 0 0 . ."), lines);
    }

    /** The first 99 DOTS of the greatest land get a MARK each. */
    private static String[] everyMark() {
        String[] lines = new String[99];
        for (int i = 0; i < lines.length; i++) {
            lines[i] = "mark(" + i % 12 + ", " + i / 12 + ", " + (i + 1) + ") = 0";
        }
        return lines;
    }

    private static String[] lines(String... lines) {
        return lines;
    }

    private static String[] concat(String[]... parts) {
        List<String> all = new ArrayList<>();
        for (String[] part : parts) {
            all.addAll(List.of(part));
        }
        return all.toArray(new String[0]);
    }

    // ---- how lines are read

    private static void test(String words, String... lines) {
        sentence = words;
        Run run = new Run();
        for (String line : lines) {
            run.read(line);
        }
    }

    private static void due(String call, Object got, Object want) {
        if (!got.equals(want)) {
            wrong++;
            System.out.println(sentence + ": " + call + " answered " + got + ", due is " + want);
        }
    }

    private static int number(String text) {
        switch (text.trim()) {
            case ".":
            case "NONE": return NONE;
            case "UNKNOWN": return -1;
            case "OUTSIDE": return -2;
            case "STATE": return -3;
            case "MIN": return Integer.MIN_VALUE;
            case "MAX": return Integer.MAX_VALUE;
            default: return Integer.parseInt(text.trim());
        }
    }

    private static int[][] table(String text) {
        if (text.isBlank()) {
            return new int[0][];
        }
        String[] rows = text.split("/");
        int[][] all = new int[rows.length][];
        for (int y = 0; y < rows.length; y++) {
            String[] row = rows[y].trim().split(" +");
            all[y] = new int[row.length];
            for (int x = 0; x < row.length; x++) {
                all[y][x] = number(row[x]);
            }
        }
        return all;
    }

    /** A call with braces stands for one call for each number in them. */
    private static List<String> unfold(String call) {
        int open = call.indexOf('{');
        if (open < 0) {
            return List.of(call);
        }
        int close = call.indexOf('}');
        List<String> all = new ArrayList<>();
        for (String each : call.substring(open + 1, close).split(",")) {
            all.addAll(unfold(call.substring(0, open) + each.trim() + call.substring(close + 1)));
        }
        return all;
    }

    /** An object, with the calls that were made on it, so that another one can be brought to the same state. */
    private static final class Run {
        private final FloodBasins basins = new FloodBasins();
        private final List<String> calls = new ArrayList<>();

        void read(String line) {
            if (line.startsWith("rows ")) {
                int[][] heights = table(line.substring(5));
                ask("land(" + heights[0].length + ", " + heights.length + ")");
                askForAll("put", heights);
            } else if (line.startsWith("marks ")) {
                askForAll("mark", table(line.substring(6)));
            } else if (line.contains("!")) {
                for (String call : unfold(line.substring(0, line.indexOf('!')).trim())) {
                    refused(call, number(line.substring(line.indexOf('!') + 1)));
                }
            } else {
                answers(line.substring(0, line.indexOf('=')).trim(), line.substring(line.indexOf('=') + 1).trim());
            }
        }

        private void askForAll(String name, int[][] numbers) {
            for (int y = 0; y < numbers.length; y++) {
                for (int x = 0; x < numbers[y].length; x++) {
                    if (numbers[y][x] != 0) {
                        ask(name + "(" + x + ", " + y + ", " + numbers[y][x] + ")");
                    }
                }
            }
        }

        private void answers(String call, String want) {
            if (call.startsWith("dots(")) {
                dots(number(call.substring(5, 6)), table(want));
            } else if (call.equals("poured") || call.equals("tree")) {
                events(call, table(want));
            } else if (call.equals("count") || want.contains(" ")) {
                inTurn(call, table(want)[0]);
            } else {
                due(call, ask(call), number(want));
            }
        }

        private void dots(int what, int[][] wants) {
            for (int y = 0; y < wants.length; y++) {
                for (int x = 0; x < wants[y].length; x++) {
                    String call = "dot(" + x + ", " + y + ", " + what + ")";
                    due(call, ask(call), wants[y][x]);
                }
            }
        }

        private void events(String name, int[][] wants) {
            for (int i = 0; i <= wants.length; i++) {
                for (int what = 0; what < 4; what++) {
                    String call = name + "(" + i + ", " + what + ")";
                    due(call, ask(call), i < wants.length ? wants[i][what] : NONE);
                }
            }
        }

        private void inTurn(String call, int[] wants) {
            String head = call.endsWith(")") ? call.substring(0, call.length() - 1) + ", " : call + "(";
            for (int what = 0; what < wants.length; what++) {
                due(head + what + ")", ask(head + what + ")"), wants[what]);
            }
        }

        private int ask(String call) {
            calls.add(call);
            if (calls.size() > MOST_CALLS) {
                due(call, "a call beyond the last one that is promised", "none");
            }
            return answer(basins, call);
        }

        /** On an object of which nothing was asked yet, and on one of which all was. */
        private void refused(String call, int want) {
            Run fresh = again();
            Run asked = again();
            Run untouched = again();
            due(call, fresh.ask(call), want);
            String before = asked.state();
            due(call, asked.ask(call), want);
            due(call + " changed", asked.state(), before);
            due(call + " changed", fresh.state(), before);
            due(call + " changed IMAGES", fresh.images(), untouched.images());
        }

        private Run again() {
            Run other = new Run();
            for (String call : calls) {
                other.ask(call);
            }
            return other;
        }

        private String state() {
            StringBuilder all = new StringBuilder();
            for (int what = 0; what < 13; what++) {
                all.append(ask("count(" + what + ")")).append(' ');
            }
            Set<Integer> found = dots(all);
            for (int one : found) {
                for (int what = 0; what < 6; what++) {
                    all.append(ask("basin(" + one + ", " + what + ")")).append(' ');
                }
            }
            int basinsPoured = ask("count(4)") - ask("count(5)");
            int basinsOfTree = ask("count(11)");
            for (int what = 0; what < 4; what++) {
                for (int i = 0; i < basinsPoured; i++) {
                    all.append(ask("poured(" + i + ", " + what + ")")).append(' ');
                }
                for (int i = 0; i < basinsOfTree; i++) {
                    all.append(ask("tree(" + i + ", " + what + ")")).append(' ');
                }
            }
            return all.toString();
        }

        /** Of a land with many DOTS a few alone, so that the calls are enough. */
        private Set<Integer> dots(StringBuilder all) {
            Set<Integer> found = new TreeSet<>();
            int wide = ask("count(0)");
            int high = ask("count(1)");
            int step = wide * high > 16 ? 5 : 1;
            for (int place = 0; place < wide * high; place += step) {
                for (int what = 0; what < 6; what++) {
                    int told = ask("dot(" + place % wide + ", " + place / wide + ", " + what + ")");
                    all.append(told).append(' ');
                    if (what == 5 && told > 0) {
                        found.add(told);
                    }
                }
            }
            return found;
        }

        private String images() {
            StringBuilder all = new StringBuilder();
            for (int k = 0; k < 2; k++) {
                all.append(ask("restore(" + k + ")")).append(": ");
                dots(all);
                all.append(ask("count(9)")).append(' ').append(ask("count(10)")).append(' ');
            }
            return all.toString();
        }
    }

    private static int answer(FloodBasins f, String call) {
        int open = call.indexOf('(');
        String inside = call.substring(open + 1, call.length() - 1);
        String[] words = inside.isBlank() ? new String[0] : inside.split(",");
        int[] a = new int[words.length];
        for (int i = 0; i < words.length; i++) {
            a[i] = number(words[i]);
        }
        switch (call.substring(0, open)) {
            case "land": return f.land(a[0], a[1]);
            case "wave": return f.wave(a[0], a[1], a[2], a[3]);
            case "heap": return f.heap(a[0], a[1], a[2], a[3]);
            case "put": return f.put(a[0], a[1], a[2]);
            case "mark": return f.mark(a[0], a[1], a[2]);
            case "pits": return f.pits();
            case "dot": return f.dot(a[0], a[1], a[2]);
            case "bound": return f.bound(a[0], a[1]);
            case "basin": return f.basin(a[0], a[1]);
            case "pass": return f.pass(a[0], a[1]);
            case "poured": return f.poured(a[0], a[1]);
            case "tree": return f.tree(a[0], a[1]);
            case "over": return f.over(a[0], a[1], a[2], a[3]);
            case "wet": return f.wet(a[0], a[1], a[2], a[3]);
            case "count": return f.count(a[0]);
            case "image": return f.image(a[0]);
            case "restore": return f.restore(a[0]);
            default: throw new IllegalArgumentException(call);
        }
    }
}
