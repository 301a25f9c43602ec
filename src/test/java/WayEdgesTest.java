import java.util.ArrayList;
import java.util.Arrays;
import java.util.List;

/** The edges of mend, please, quiet, rests, tales and gains: a test for each sentence that names one, under its words. */
public final class WayEdgesTest {
    private static final int MOST = Integer.MAX_VALUE;
    private static final int LEAST = Integer.MIN_VALUE;

    public static void main(String[] args) {
        mendWhom();
        mendNoneDoes();
        mendNothingToDo();
        mendByTheFewest();
        mendFirstRow();
        mendEmptyHouse();
        mendRings();
        pleaseWhat();
        pleaseTheMost();
        pleaseByTheFewest();
        pleaseFirstRow();
        quietWhom();
        quietTheLeast();
        quietFirstRow();
        waysChangeNothing();
        restsWhom();
        restsNeighbours();
        restsWhat();
        restsNone();
        restsOrder();
        restsBounds();
        restsOfEqual();
        taleWhom();
        tenTales();
        talesOfTheSame();
        howMany();
        wereWhom();
        wereAllNoneSome();
        wereNoWay();
        askCodes();
        askNone();
        askLeast();
        gainsWhom();
        gainsNow();
        Check.end();
    }

    private static void mended(String what, WallLottery x, int swaps, int... homes) {
        Check.due(what + ": swaps", x.mend(-1), swaps);
        for (int family = 0; family < homes.length; family++) {
            Check.due(what + ": home of " + family, x.mend(family), homes[family]);
        }
    }

    private static void pleased(String what, WallLottery x, int content, int swaps, int... homes) {
        Check.due(what + ": content", x.please(0), content);
        Check.due(what + ": swaps", x.please(1), swaps);
        for (int family = 0; family < homes.length; family++) {
            Check.due(what + ": home of " + family, x.please(2 + family), homes[family]);
        }
    }

    /** "MEND, family NONE: how many SWAPS; else its HOUSE; -2: others, none does.": whom */
    private static void mendWhom() {
        WallLottery x = Check.town(Check.houses(6) + Check.families(3, 0));
        Check.due("NONE", x.mend(-1), 0);
        Check.due("the last one", x.mend(2), 2);
        for (int bad : new int[] {-2, 3, 5, 6, MOST, LEAST}) {
            Check.due("mend " + bad, x.mend(bad), -2);
        }
        WallLottery six = Check.town(Check.houses(6) + Check.families(6, 0));
        Check.due("the sixth", six.mend(5), 5);
        Check.due("a seventh", six.mend(6), -2);
    }

    /** "-2: others, none does" */
    private static void mendNoneDoes() {
        WallLottery x = Check.town(Check.TWO + "wall aa bb 1;apart cc dd;beside cc dd;");
        for (int family = -1; family < 2; family++) {
            Check.due("never: " + family, x.mend(family), -2);
        }
        WallLottery y = Check.town(Check.houses(3) + Check.families(3, 0) + Check.walls("ab")
            + "beside fa fb;beside fb fc;");
        Check.due("one wall is too few", y.mend(-1), -2);
        Check.due("two do", Check.town(Check.houses(3) + Check.families(3, 0) + Check.walls("ab bc")
            + "beside fa fb;beside fb fc;").mend(-1), 0);
    }

    /** "the fewest SWAPS ... by which no custom is BROKEN": none */
    private static void mendNothingToDo() {
        mended("no customs", Check.town(Check.houses(3) + Check.families(2, 0)), 0, 0, 1);
        WallLottery x = Check.town(Check.houses(3) + Check.families(3, 0));
        x.swap(0, 2);
        mended("no customs: all stay where they are", x, 0, 2, 1, 0);
        mended("nobody", Check.town(Check.houses(3)), 0);
        mended("nothing", Check.town(""), 0);
    }

    /** "the fewest SWAPS ... from now on" */
    private static void mendByTheFewest() {
        String land = Check.houses(4) + Check.families(4, 0) + Check.walls("ab") + "beside fc fd;";
        WallLottery x = Check.town(land);
        mended("two", x, 2, 2, 3, 0, 1);
        x.swap(0, 2);
        // fc in a, fd in d, so fd and fb change: one, though two by rows that come first would do as well
        mended("one", x, 1, 2, 3, 0, 1);
        x.swap(1, 3);
        mended("none", x, 0, 2, 3, 0, 1);
        x.swap(2, 3);
        mended("none, the other way round", x, 0, 2, 3, 1, 0);
    }

    /** "(of all such ways with the fewest the first: a row by FAMILIES)" */
    private static void mendFirstRow() {
        // either may go to c: fa to c is row 2 1, fb to c is row 0 2
        mended("the first", Check.town(Check.houses(3) + Check.families(2, 0) + Check.walls("ab") + "apart fa fb;"),
            1, 0, 2);
        // c and d would both do for fb: c is first
        mended("the first house", Check.town(Check.houses(4) + Check.families(2, 0) + Check.walls("ab") + "apart fa fb;"),
            1, 0, 2);
    }

    /** "SWAPS (of FAMILIES with others, or to a HOUSE where nobody lives)" */
    private static void mendEmptyHouse() {
        WallLottery x = Check.town(Check.houses(6) + Check.families(2, 0) + Check.walls("ef") + "beside fa fb;");
        mended("both go to empty ones", x, 2, 4, 5);
        WallLottery y = Check.town(Check.houses(3) + Check.families(2, 0) + Check.walls("ac") + "beside fa fb;");
        mended("one goes", y, 1, 0, 2);
        WallLottery z = Check.town(Check.houses(3) + Check.families(2, 0) + "wall a b 1;wall b c 2;noise brick;"
            + "joy (felt = 2) - 1;");
        pleased("one goes where none lives", z, 2, 1, 2, 1);
    }

    /** "FAMILIES that live elsewhere then, less the rings of such who take one another's HOUSES" */
    private static void mendRings() {
        // in a row of houses they must stand as told: by the row itself or by its mirror alone
        String land = Check.houses(6) + Check.walls("ab bc cd de ef") + "beside fa fb;beside fb fc;beside fc fd;"
            + "beside fd fe;";
        ring("a ring of two", land, 1, 0, 5);
        ring("a ring of three", land, 2, 0, 2, 1);
        ring("a ring of four", land, 3, 0, 1, 2, 4);
        WallLottery two = Check.town(ordered(land, 6));
        two.swap(0, 1);
        two.swap(3, 2);
        mended("two rings of two", two, 2, 0, 1, 2, 3, 4, 5);
        for (int families = 5; families <= 6; families++) {
            for (int seed = 0; seed < 150; seed++) {
                asByRings(ordered(land, families), seed);
            }
        }
    }

    private static String ordered(String land, int families) {
        int customs = land.indexOf("beside");
        return land.substring(0, customs) + Check.families(families, 0) + land.substring(customs)
            + (families == 6 ? "apart fa ff;" : "");
    }

    /** Some of six, who stand as they must, go on by one in a ring: how many SWAPS bring them back. */
    private static void ring(String what, String land, int due, int... members) {
        WallLottery x = Check.town(ordered(land, 6));
        mended("as told", x, 0, 0, 1, 2, 3, 4, 5);
        for (int i = 1; i < members.length; i++) {
            x.swap(members[0], members[i]);
        }
        mended(what, x, due, 0, 1, 2, 3, 4, 5);
    }

    private static void asByRings(String text, int seed) {
        WallLottery x = Check.town(text);
        x.draw(seed);
        int[] from = new int[x.count(1)];
        for (int family = 0; family < from.length; family++) {
            from[family] = x.family(family, 4);
        }
        int[] best = null;
        for (int[] row : rows(6)) {
            if (isOrdered(row, from.length) && (best == null || swaps(from, row) < swaps(from, best))) {
                best = row;
            }
        }
        mended("by " + seed, x, swaps(from, best), Arrays.copyOf(best, from.length));
    }

    /** Whether the first five stand in a row one beside the other, and the sixth, if there is one, not beside fa. */
    private static boolean isOrdered(int[] row, int families) {
        for (int i = 0; i < 4; i++) {
            if (Math.abs(row[i] - row[i + 1]) != 1) {
                return false;
            }
        }
        return families < 6 || Math.abs(row[0] - row[5]) != 1;
    }

    private static List<int[]> rows(int size) {
        List<int[]> all = new ArrayList<>();
        fill(all, new int[size], 0, 0);
        return all;
    }

    private static void fill(List<int[]> all, int[] row, int at, int taken) {
        if (at == row.length) {
            all.add(row.clone());
        }
        for (int h = 0; at < row.length && h < row.length; h++) {
            if ((taken >> h & 1) == 0) {
                row[at] = h;
                fill(all, row, at + 1, taken | 1 << h);
            }
        }
    }

    private static int swaps(int[] from, int[] to) {
        int elsewhere = 0;
        int rings = 0;
        for (int i = 0; i < from.length; i++) {
            elsewhere += from[i] != to[i] ? 1 : 0;
            int least = i;
            int at = from[i] != to[i] ? next(from, to, i) : -1;
            while (at >= 0 && at != i) {
                least = Math.min(least, at);
                at = next(from, to, at);
            }
            rings += at == i && least == i ? 1 : 0;
        }
        return elsewhere - rings;
    }

    /** Whose HOUSE one takes; -1: nobody's. */
    private static int next(int[] from, int[] to, int family) {
        for (int i = 0; i < from.length; i++) {
            if (from[i] == to[family]) {
                return i;
            }
        }
        return -1;
    }

    /** "PLEASE, what 0: how many are CONTENT, 1: SWAPS, 2 + i: the HOUSE of the i-th FAMILY; NONE: others." */
    private static void pleaseWhat() {
        WallLottery x = Check.town(Check.houses(6) + Check.families(3, 0));
        pleased("three", x, 3, 0, 0, 1, 2);
        for (int bad : new int[] {-1, -2, 5, 6, 7, 8, MOST, LEAST}) {
            Check.due("please " + bad, x.please(bad), -1);
        }
        WallLottery six = Check.town(Check.houses(6) + Check.families(6, 0));
        Check.due("2 + 5", six.please(7), 5);
        Check.due("2 + 6", six.please(8), -1);
        WallLottery none = Check.town(Check.houses(6));
        Check.due("nobody", none.please(0) + none.please(1), 0);
        Check.due("no first one", none.please(2), -1);
    }

    /** "the ways by which the most are CONTENT" */
    private static void pleaseTheMost() {
        String hates = "hate fa fb 1;hate fb fa 1;";
        pleased("one stands empty", Check.town(Check.houses(3) + Check.families(2, 0) + Check.walls("ab") + hates),
            2, 1, 0, 2);
        pleased("nobody can be", Check.town(Check.houses(2) + Check.families(2, 0) + Check.walls("ab") + hates),
            0, 0, 0, 1);
        pleased("one can't be", Check.town(Check.houses(2) + Check.families(2, 0) + Check.walls("ab") + "hate fa fb 1;"),
            1, 0, 0, 1);
        WallLottery more = Check.town(Check.houses(4) + Check.families(3, 0) + Check.walls("ab bc cd") + "joy 0 - near;");
        // from d c b a on: fa and fb are parted by one step in four ways; to stay would be no step at all
        WallLottery far = Check.town(Check.houses(4) + Check.families(4, 0) + Check.walls("cd") + hates);
        far.swap(0, 3);
        far.swap(1, 2);
        pleased("more content goes ahead of fewer swaps", far, 4, 1, 0, 2, 1, 3);
        // whichever house stands empty, no more than one of three lives without a neighbour
        pleased("one of three", more, 1, 1, 0, 1, 3);
    }

    /** "of these by the fewest SWAPS" */
    private static void pleaseByTheFewest() {
        WallLottery x = Check.town(Check.houses(4) + Check.families(2, 0) + Check.walls("ab") + "joy near - 1;");
        pleased("as they are", x, 2, 0, 0, 1);
        x.swap(0, 1);
        pleased("as they are, the other way round", x, 2, 0, 1, 0);
        WallLottery y = Check.town(Check.houses(4) + Check.families(3, 0) + Check.walls("ad") + "like fc fa 1;"
            + "joy fond - 1;");
        // fc beside fa in a and d: fc goes to d by one
        pleased("one goes to d", y, 1, 1, 0, 1, 3);
    }

    /** "of these the first row, likewise" */
    private static void pleaseFirstRow() {
        WallLottery x = Check.town(Check.houses(4) + Check.families(2, 0) + Check.walls("ab cd") + "joy 0 - near;");
        // fa to c, fa to d, fb to c, fb to d all do by one: 0 2 is the first row
        pleased("the first", x, 2, 1, 0, 2);
        x.swap(0, 1);
        pleased("the first from elsewhere", x, 2, 1, 1, 2);
    }

    /** "QUIET, family NONE: FELT of all together; else its HOUSE; -2: others." */
    private static void quietWhom() {
        WallLottery x = Check.town(Check.houses(6) + Check.families(3, 0));
        Check.due("NONE", x.quiet(-1), 0);
        Check.due("the last one", x.quiet(2), 2);
        for (int bad : new int[] {-2, 3, 5, 6, MOST, LEAST}) {
            Check.due("quiet " + bad, x.quiet(bad), -2);
        }
        WallLottery none = Check.town(Check.houses(6));
        Check.due("nobody feels anything", none.quiet(-1), 0);
        Check.due("no first one", none.quiet(0), -2);
    }

    /** "the ways by which FELT of all together is the least" */
    private static void quietTheLeast() {
        WallLottery all = Check.town(Check.houses(6) + Check.families(6, 0)
            + Check.walls("ab ac ad ae af bc bd be bf cd ce cf de df ef") + "noise 99;");
        Check.due("all by all", all.quiet(-1), 30 * 99);
        WallLottery x = Check.town("house a;house b;house c;wall a b 9;wall b c 1;wall a c 5;" + Check.families(2, 0)
            + "noise 10 - brick;");
        Check.due("by the thickest wall", x.quiet(-1), 2);
        Check.due("in a", x.quiet(0), 0);
        Check.due("in b", x.quiet(1), 1);
        WallLottery second = Check.town("house a;house b;house c;wall a b 1;wall b c 1;wall a c 5;" + Check.families(2, 0)
            + "noise 10 - brick;");
        Check.due("by the second row", second.quiet(-1), 10);
        Check.due("a c", second.quiet(0) * 10 + second.quiet(1), 2);
        WallLottery end = Check.town("house a;house b;house c;wall a b 3;wall b c 1;wall a c 3;" + Check.families(2, 0)
            + "noise brick;");
        Check.due("the least behind others", end.quiet(-1), 2);
        Check.due("b c", end.quiet(0) * 10 + end.quiet(1), 12);
    }

    /** "of these the first row: FELT; HOUSES": not by SWAPS */
    private static void quietFirstRow() {
        WallLottery x = Check.town(Check.houses(3) + Check.families(3, 0) + Check.walls("ab") + "noise 7;");
        x.swap(0, 2);
        Check.due("as loud as ever", x.quiet(-1), 14);
        for (int family = 0; family < 3; family++) {
            Check.due("the first row, though they live elsewhere", x.quiet(family), family);
        }
    }

    /** "MEND ... PLEASE ... QUIET": told, not done */
    private static void waysChangeNothing() {
        WallLottery x = Check.town(Check.ROW);
        x.swap(0, 1);
        x.swap(1, 2);
        int[] before = new int[12];
        for (int what = 0; what < 12; what++) {
            before[what] = x.count(what);
        }
        for (int i = -2; i < 9; i++) {
            x.mend(i);
            x.please(i);
            x.quiet(i);
        }
        for (int what = 0; what < 12; what++) {
            Check.due("count " + what, x.count(what), before[what]);
        }
        Check.due("homes", x.family(0, 4) * 100 + x.family(1, 4) * 10 + x.family(2, 4), 120);
    }

    private static WallLottery hedge(String law) {
        return Check.town(Check.TWO + "wall aa bb 1;like cc dd 3;hate dd cc 2;" + law);
    }

    /** "NoSuchElementException: others, no NEIGHBOURS, none such.": whom */
    private static void restsWhom() {
        WallLottery x = hedge("");
        for (int bad : new int[] {-1, 2, 5, 6, MOST, LEAST}) {
            for (int what = -1; what < 2; what++) {
                int which = what;
                Check.none("rests " + bad, () -> x.rests(bad, 0, which));
                Check.none("rests 0 " + bad, () -> x.rests(0, bad, which));
            }
        }
        Check.none("the same", () -> x.rests(0, 0, -1));
        Check.none("the same", () -> x.rests(1, 1, 0));
        Check.due("two", x.rests(1, 0, -1), 1);
    }

    /** "no NEIGHBOURS" */
    private static void restsNeighbours() {
        WallLottery x = Check.town(Check.ROW);
        Check.none("how many", () -> x.rests(0, 2, -1));
        Check.none("the first", () -> x.rests(0, 2, 0));
        x.swap(0, 1);
        Check.due("neighbours by a swap", x.rests(0, 2, -1), 1);
        Check.none("no more", () -> x.rests(1, 2, -1));
        x.undo();
        Check.none("neither any more", () -> x.rests(0, 2, -1));
    }

    /** "what NONE: how many; i: the i-th as ..." */
    private static void restsWhat() {
        WallLottery x = hedge("hedge 5;");
        Check.due("how many", x.rests(0, 1, -1), 4);
        for (int i = 0; i < 4; i++) {
            Check.due("rest " + i, x.rests(0, 1, i), i);
        }
        for (int bad : new int[] {-2, 4, 5, MOST, LEAST}) {
            Check.none("what " + bad, () -> x.rests(0, 1, bad));
        }
        WallLottery one = hedge("hedge mine;");
        Check.due("one", one.rests(0, 1, 0), 3);
        Check.none("none such", () -> one.rests(0, 1, 1));
    }

    /** "none such": when there is none at all, how many is 0 */
    private static void restsNone() {
        // cc wants to be alike, dd not
        WallLottery x = hedge("hedge (mine = his) * (0 < fond) + (mine + his = 1) * (fond < 0);");
        Check.due("how many", x.rests(0, 1, -1), 0);
        Check.due("how many, the other way", x.rests(1, 0, -1), 0);
        Check.none("the first", () -> x.rests(0, 1, 0));
    }

    /** "2 * the first one's choice + the other one's (1 cut; the least first)" */
    private static void restsOrder() {
        WallLottery x = hedge("hedge mine * fond;");
        Check.due("cc cuts, dd keeps", x.rests(0, 1, 0), 2);
        Check.due("told of dd first", x.rests(1, 0, 0), 1);
        WallLottery y = hedge("hedge mine + his = 1;");
        Check.due("the least first", y.rests(0, 1, 0), 1);
        Check.due("then the other", y.rests(0, 1, 1), 2);
        Check.due("the least first, the other way, too", y.rests(1, 0, 0), 1);
        Check.due("mine is one's own", hedge("hedge mine;").rests(0, 1, 0), 3);
        Check.due("his is the other one's: nobody gets more by itself", hedge("hedge his;").rests(0, 1, -1), 4);
    }

    /** "each gets the E of hedge (-99 to 99)" */
    private static void restsBounds() {
        Check.due("98 and 99", hedge("hedge 98 + mine;").rests(0, 1, -1), 1);
        Check.due("99 and 100 are alike", hedge("hedge 99 + mine;").rests(0, 1, -1), 4);
        Check.due("-99 and -98", hedge("hedge mine - 99;").rests(0, 1, -1), 1);
        Check.due("-100 and -99 are alike", hedge("hedge mine - 100;").rests(0, 1, -1), 4);
        Check.due("what wraps", hedge("hedge mine * (256 * 256 * 256 * 128);").rests(0, 1, 0), 0);
    }

    /** "choices by which neither would get more by its other one": as much is no more */
    private static void restsOfEqual() {
        WallLottery x = hedge("hedge mine * his;");
        Check.due("both keep, for one alone gets nothing by cutting", x.rests(0, 1, 0), 0);
        Check.due("both cut", x.rests(0, 1, 1), 3);
        Check.due("two", x.rests(0, 1, -1), 2);
    }

    /** "A TALE: true; false: others, the same, 10 are told.": whom */
    private static void taleWhom() {
        WallLottery x = Check.town(Check.houses(6) + Check.families(3, 0));
        for (boolean were : new boolean[] {false, true}) {
            for (int bad : new int[] {-1, 3, 5, 6, MOST, LEAST}) {
                Check.due("tale " + bad, x.tale(bad, 0, were), false);
                Check.due("tale 0 " + bad, x.tale(0, bad, were), false);
            }
            Check.due("the same", x.tale(2, 2, were), false);
        }
        Check.due("none is told", x.count(10), 0);
        Check.due("all ways are there", x.how(), 120);
        Check.due("the last one", x.tale(2, 0, false), true);
    }

    /** "10 at most", "10 are told" */
    private static void tenTales() {
        WallLottery x = Check.town(Check.ROW);
        for (int i = 1; i <= 10; i++) {
            Check.due("tale " + i, x.tale(i % 2, 2, false), true);
            Check.due("tales", x.count(10), i);
        }
        int ways = x.how();
        Check.due("an eleventh", x.tale(0, 1, true), false);
        Check.due("an eleventh, not", x.tale(0, 1, false), false);
        Check.due("it is not told", x.how(), ways);
        Check.due("ten", x.count(10), 10);
        // a tenth counts as any other
        WallLottery y = Check.town(Check.ROW);
        for (int i = 0; i < 9; i++) {
            y.tale(0, 1, true);
        }
        y.tale(0, 2, true);
        Check.due("the tenth is heard", y.how(), 4);
    }

    /** "TALES: that two were NEIGHBOURS once, or were not": the same ones again, either way round */
    private static void talesOfTheSame() {
        WallLottery x = Check.town(Check.ROW);
        Check.due("told", x.tale(0, 1, true) && x.tale(1, 0, true), true);
        Check.due("two", x.count(10), 2);
        Check.due("no less by the second", x.how(), 12);
    }

    /** "of all ways to live those by which all TALES are so: how many" */
    private static void howMany() {
        Check.due("nothing: one way", Check.town("").how(), 1);
        Check.due("nobody: one way", Check.town(Check.houses(6)).how(), 1);
        Check.due("one in six", Check.town(Check.houses(6) + Check.families(1, 0)).how(), 6);
        Check.due("five in six", Check.town(Check.houses(6) + Check.families(5, 0)).how(), 720);
        Check.due("six in six", Check.town(Check.houses(6) + Check.families(6, 0)).how(), 720);
        WallLottery x = Check.town(Check.houses(2) + Check.families(2, 0) + Check.walls("ab"));
        Check.due("told as it is", x.tale(0, 1, true) && x.how() == 2, true);
        Check.due("told as it can't be", x.tale(0, 1, false) && x.how() == 0, true);
    }

    /** "NONE: others, the same, no way.": whom */
    private static void wereWhom() {
        WallLottery x = Check.town(Check.houses(6) + Check.families(3, 0));
        Check.due("two", x.were(0, 2), 0);
        for (int i = 0; i < 3; i++) {
            Check.due("the same", x.were(i, i), -1);
        }
        for (int bad : new int[] {-1, 3, 5, 6, MOST, LEAST}) {
            Check.due("were " + bad, x.were(bad, 0), -1);
            Check.due("were 0 " + bad, x.were(0, bad), -1);
        }
    }

    /** "Of two, 0: NEIGHBOURS in no way, 1: in all, 2: in some" */
    private static void wereAllNoneSome() {
        Check.due("in no way", Check.town(Check.TWO).were(0, 1), 0);
        Check.due("in all", Check.town(Check.TWO + "wall aa bb 1;").were(0, 1), 1);
        // 14 of 15 pairs of houses, and one of them
        Check.due("in all but a few", Check.town(Check.houses(6) + Check.families(6, 0)
            + Check.walls("ab ac ad ae af bc bd be bf cd ce cf de df")).were(4, 5), 2);
        Check.due("in a few", Check.town(Check.houses(6) + Check.families(6, 0) + Check.walls("ef")).were(4, 5), 2);
        WallLottery x = Check.town(Check.ROW);
        x.tale(0, 1, false);
        Check.due("by a tale", x.were(1, 0), 0);
    }

    /** "NONE: ... no way" */
    private static void wereNoWay() {
        WallLottery x = Check.town(Check.ROW);
        x.tale(0, 1, true);
        x.tale(0, 1, false);
        for (int i = 0; i < 9; i++) {
            Check.due("no way", x.were(i / 3, i % 3), -1);
        }
        Check.due("none to ask about", x.ask(), -1);
        Check.due("how", x.how(), 0);
    }

    /** "ASK, as the lesser one * 6 + the other one" */
    private static void askCodes() {
        WallLottery x = Check.town(Check.houses(6) + Check.families(6, 0) + Check.walls("ab ac ad ae af"));
        Check.due("the first", x.ask(), 1);
        // fe and ff are left: one of them lives in a
        for (int i = 0; i < 4; i++) {
            for (int j = i + 1; j < 4; j++) {
                x.tale(i, j, false);
            }
        }
        for (int i = 0; i < 4; i++) {
            Check.due("told", x.were(i, i + 1 < 4 ? i + 1 : 0), 0);
        }
        Check.due("fa and fe", x.ask(), 4);
        x.tale(4, 0, true);
        Check.due("fe is in a", x.were(4, 5), 1);
        Check.due("nothing is left", x.ask(), -1);
    }

    /** "NONE: none parts them.", "if that is less than all" */
    private static void askNone() {
        Check.due("nothing", Check.town("").ask(), -1);
        Check.due("one alone", Check.town(Check.houses(3) + Check.families(1, 0) + Check.walls("ab")).ask(), -1);
        Check.due("never neighbours", Check.town(Check.houses(3) + Check.families(3, 0)).ask(), -1);
        Check.due("always neighbours",
            Check.town(Check.houses(3) + Check.families(3, 0) + Check.walls("ab bc ac")).ask(), -1);
        Check.due("one of three pairs", Check.town(Check.houses(3) + Check.families(2, 0) + Check.walls("ab")).ask(), 1);
    }

    /** "so that the greater number of the ways by which they are NEIGHBOURS, or are not, is the least", "of equal ones the first" */
    private static void askLeast() {
        WallLottery x = Check.town(Check.houses(4) + Check.families(4, 0) + Check.walls("ab bc cd"));
        Check.due("all pairs are equal: the first", x.ask(), 1);
        x.tale(0, 1, true);
        // fa fb side by side: 12 ways; fc fd are in 8 of them, the others in 4: greater is 8 for all
        Check.due("equal again: the first that parts", x.ask(), 2);
        x.tale(0, 2, false);
        // 8 ways: fa fd in 4, fb fc in 4, fb fd in 2 .. the first of the best
        int best = -1;
        int least = x.how();
        for (int one = 0; one < 4; one++) {
            for (int other = one + 1; other < 4; other++) {
                WallLottery y = Check.town(Check.houses(4) + Check.families(4, 0) + Check.walls("ab bc cd"));
                y.tale(0, 1, true);
                y.tale(0, 2, false);
                int all = y.how();
                y.tale(one, other, true);
                int in = y.how();
                int greater = Math.max(in, all - in);
                if (greater < least) {
                    least = greater;
                    best = 6 * one + other;
                }
            }
        }
        Check.due("the least of the greater ones", x.ask(), best);
    }

    /** "GAINS. NoSuchElementException: others." */
    private static void gainsWhom() {
        WallLottery x = Check.town(Check.houses(6) + Check.families(3, 0));
        Check.due("nothing", x.gains(2), 0);
        WallLottery six = Check.town(Check.houses(6) + Check.families(6, 0) + Check.walls("ab ef")
            + "owes ff fe 7;owes fa ff 9;owes fb fa 2;");
        Check.due("the sixth", six.gains(5), 7);
        Check.due("the fifth", six.gains(4), -7);
        Check.due("the first", six.gains(0), -2);
        for (int bad : new int[] {-1, 3, 5, 6, MOST, LEAST}) {
            Check.none("gains " + bad, () -> x.gains(bad));
        }
    }

    /** "what a FAMILY owes that would lapse by a DRAW now, less what it is owed that would" */
    private static void gainsNow() {
        String land = Check.houses(3) + "family fa plain loud 0 ears 0 coins 9;family fb lawyer loud 0 ears 0 coins 9;"
            + "family fc plain loud 0 ears 0 coins 9;" + Check.walls("ab bc")
            + "owes fa fb 1;owes fb fa 2;owes fa fc 4;owes fc fa 8;owes fb fc 16;owes fc fb 32;";
        WallLottery x = Check.town(land);
        Check.due("fa: what fb owes it", x.gains(0), -2);
        Check.due("fb: what it owes both", x.gains(1), 18);
        Check.due("fc", x.gains(2), -16);
        Check.due("as much lapses", x.draw(0), 18);
        x.undo();
        Check.due("and again", x.gains(1), 18);
        x.swap(1, 2);
        Check.due("fa beside fc", x.gains(0), 4 - 8);
        Check.due("fc beside both", x.gains(2), 8 - 4 - 16);
        Check.due("fb beside fc", x.gains(1), 16);
        x.swap(0, 1);
        x.draw(2);
        int together = 0;
        for (int family = 0; family < 3; family++) {
            together += x.gains(family);
        }
        Check.due("what one gains another one loses", together, 0);
    }
}
