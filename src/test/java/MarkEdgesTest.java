/** The edges of MARKS and of count, and of many calls: a test for each sentence that names one, under its words. */
public final class MarkEdgesTest {
    private static final int MOST = Integer.MAX_VALUE;
    private static final int LEAST = Integer.MIN_VALUE;

    public static void main(String[] args) {
        whichMarks();
        nothingOnIt();
        whatMarksHold();
        nothingUndoneThen();
        laidAnew();
        eachByItself();
        marksStay();
        marksWithoutATown();
        countWhat();
        countAfterDraws();
        countCoinsAndDebts();
        mostOfAll();
        manyCalls();
        Check.end();
    }

    /** "MARKS 0 to 3", "false: none such" */
    private static void whichMarks() {
        WallLottery x = Check.town(Check.ROW);
        for (int mark = 0; mark < 4; mark++) {
            Check.due("lay " + mark, x.mark(mark, false), true);
            Check.due("back to " + mark, x.mark(mark, true), true);
        }
        for (int bad : new int[] {-1, 4, 5, MOST, LEAST}) {
            Check.due("lay " + bad, x.mark(bad, false), false);
            Check.due("back to " + bad, x.mark(bad, true), false);
        }
    }

    /** "false: none such, nothing is on it (back)." */
    private static void nothingOnIt() {
        WallLottery x = Check.town(Check.ROW);
        x.swap(0, 1);
        String before = Check.picture(x);
        for (int mark = 0; mark < 4; mark++) {
            Check.due("nothing on " + mark, x.mark(mark, true), false);
        }
        Check.samePicture("nothing has changed", Check.picture(x), before);
        x.mark(2, false);
        for (int mark = 0; mark < 4; mark++) {
            Check.due("only 2: " + mark, x.mark(mark, true), mark == 2);
        }
    }

    /** "hold who lives where, coins, debts, draws, what has lapsed, TALES" */
    private static void whatMarksHold() {
        WallLottery x = Check.town(Check.ROW);
        x.lend(0, 1, 3);
        x.tale(0, 1, true);
        x.draw(6);
        x.mark(0, false);
        int[] held = new int[13];
        for (int what = 0; what < 13; what++) {
            held[what] = x.count(what);
        }
        int[] family = new int[9];
        for (int i = 0; i < 9; i++) {
            family[i] = i < 3 ? x.family(i, 4) : i < 6 ? x.family(i - 3, 3) : x.owes(i - 6, (i - 5) % 3);
        }
        int ways = x.how();
        x.swap(0, 1);
        x.draw(11);
        x.pay(2, 0, 1);
        x.draw(12);
        x.tale(0, 2, false);
        x.tale(1, 2, false);
        Check.due("other ways by other tales", x.how() != ways, true);
        Check.due("back", x.mark(0, true), true);
        for (int what = 0; what < 13; what++) {
            Check.due("count " + what, x.count(what), what == 11 ? 0 : held[what]);
        }
        for (int i = 0; i < 9; i++) {
            int now = i < 3 ? x.family(i, 4) : i < 6 ? x.family(i - 3, 3) : x.owes(i - 6, (i - 5) % 3);
            Check.due("home, coins, debt " + i, now, family[i]);
        }
        Check.due("ways", x.how(), ways);
    }

    /** "(nothing can be undone when one is gone back to)" */
    private static void nothingUndoneThen() {
        WallLottery x = Check.town(Check.ROW);
        x.swap(0, 1);
        x.swap(1, 2);
        x.mark(1, false);
        Check.due("laying one leaves it", x.count(11), 2);
        x.swap(0, 1);
        Check.due("three", x.count(11), 3);
        x.mark(1, true);
        Check.due("none", x.count(11), 0);
        Check.due("undo", x.undo(), false);
        Check.due("it lives where it did", x.family(0, 4), 1);
        x.swap(0, 2);
        Check.due("what is done then can be", x.count(11), 1);
        Check.due("undone", x.undo() && x.family(0, 4) == 1, true);
        Check.due("no further", x.undo(), false);
        x.swap(0, 1);
        Check.due("going back to none leaves it", !x.mark(0, true) && x.count(11) == 1, true);
    }

    /** "A MARK is laid": where one was, too */
    private static void laidAnew() {
        WallLottery x = Check.town(Check.ROW);
        x.mark(3, false);
        x.swap(0, 2);
        x.tale(0, 1, true);
        x.mark(3, false);
        x.swap(0, 1);
        x.tale(0, 1, false);
        Check.due("back", x.mark(3, true), true);
        Check.due("to the later one", x.family(0, 4), 2);
        Check.due("its tales", x.count(10) * 100 + x.how(), 112);
    }

    /** "MARKS 0 to 3": each holds its own */
    private static void eachByItself() {
        WallLottery x = Check.town(Check.houses(2) + Check.families(2, 9) + Check.walls("ab"));
        for (int mark = 0; mark < 4; mark++) {
            x.mark(mark, false);
            x.lend(0, 1, 1);
        }
        for (int mark : new int[] {2, 0, 3, 1, 3}) {
            x.mark(mark, true);
            Check.due("mark " + mark, x.owes(1, 0), mark);
        }
    }

    /** "A MARK is laid (back: gone back to)": it stays, whatever is done behind it */
    private static void marksStay() {
        WallLottery x = Check.town(Check.ROW);
        x.mark(0, false);
        String told = Check.picture(x);
        for (int i = 0; i < 3; i++) {
            x.draw(i);
            x.swap(0, 1);
            x.tale(0, 1, i == 0);
            Check.due("back", x.mark(0, true), true);
        }
        Check.samePicture("as it was laid", Check.picture(x), told);
        x.swap(0, 1);
        x.undo();
        Check.due("an undo leaves it", x.mark(0, true), true);
        Check.days(x, "draw 1;");
        Check.due("so do days", x.mark(0, true), true);
    }

    /** "MARKS 0 to 3": of nothing, too */
    private static void marksWithoutATown() {
        WallLottery x = new WallLottery();
        Check.due("lay", x.mark(0, false), true);
        x.draw(1);
        Check.due("back", x.mark(0, true) && x.count(5) == 0, true);
    }

    /** "NONE for another what." */
    private static void countWhat() {
        WallLottery x = Check.town(Check.ROW);
        for (int bad : new int[] {-2, -1, 13, 14, MOST, LEAST}) {
            Check.due("count " + bad, x.count(bad), -1);
        }
        Check.due("0", x.count(0), 4);
        Check.due("12", x.count(12), 0);
        x.feed('a', 0, 0);
        Check.due("12: a sign", x.count(12), 1);
    }

    /** "5: draws there were, 6: what has lapsed" */
    private static void countAfterDraws() {
        WallLottery x = Check.town(Check.houses(2) + Check.families(2, 99) + Check.walls("ab"));
        int lapsed = 0;
        for (int i = 1; i <= 40; i++) {
            x.lend(0, 1, i % 5 + 1 > x.family(0, 3) ? 1 : i % 5 + 1);
            lapsed += x.owes(1, 0);
            x.draw(i);
            Check.due("draws", x.count(5), i);
            Check.due("lapsed", x.count(6), lapsed);
            Check.due("no debts", x.count(8), 0);
        }
        x.centuries(1, 60, 0);
        x.judged(0);
        Check.due("draws by hand alone", x.count(5), 40);
    }

    /** "7: coins of all, 8: debts of all" */
    private static void countCoinsAndDebts() {
        StringBuilder debts = new StringBuilder();
        for (char one = 'a'; one <= 'f'; one++) {
            for (char other = 'a'; other <= 'f'; other++) {
                debts.append(one == other ? "" : "owes f" + one + " f" + other + " 99;");
            }
        }
        WallLottery x = Check.town(Check.houses(6) + Check.families(6, 999) + debts);
        Check.due("coins", x.count(7), 6 * 999);
        Check.due("debts", x.count(8), 30 * 99);
        WallLottery few = Check.town(Check.houses(1) + Check.families(1, 7));
        Check.due("coins of one", few.count(7), 7);
        Check.feed(x, "house a;");
        Check.due("a new town has none of the old coins", x.town() + x.count(7) + x.count(8), 0);
    }

    /** "house: 6 at most", "4 of each at most", "24 lines at most", "10 at most", "the last 16", "1,000 signs": all at once */
    private static void mostOfAll() {
        WallLottery x = Check.town(Check.houses(6) + Check.families(6, 9)
            + Check.walls("ab ac ad ae af bc bd be bf cd ce cf de df ef") + "apart fa fb;".repeat(4)
            + "beside fc fd;".repeat(4));
        Check.days(x, "draw 9999;".repeat(24));
        for (int i = 0; i < 20; i++) {
            x.draw(i);
            x.tale(0, 1, true);
        }
        Check.feed(x, " ".repeat(1001));
        int[] due = {6, 6, 15, 4, 4, 20, 0, 54, 0, 24, 10, 16, 1000};
        for (int what = 0; what < 13; what++) {
            Check.due("count " + what, x.count(what), due[what]);
        }
        Check.due("ways", x.how(), 720);
        Check.due("broken", x.broken(), 0x0f);
    }

    /** "An object is used for at most 512 calls after it has been made": the last of them is as the first */
    private static void manyCalls() {
        WallLottery x = new WallLottery();
        Check.feed(x, Check.ROW);
        x.town();
        for (int call = 16; call <= 510; call++) {
            x.swap(call % 3, (call + 1) % 3);
        }
        Check.due("495 swaps, 16 kept", x.count(11), 16);
        Check.due("the 512th", x.undo(), true);
    }
}
