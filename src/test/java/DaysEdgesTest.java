/** The edges of DAYS and of reading anew: a test for each sentence of the document that names one, under its words. */
public final class DaysEdgesTest {
    public static void main(String[] args) {
        anyNumber();
        seeds();
        coins();
        twentyFour();
        familiesTold();
        notTheSame();
        words();
        aTownAnew();
        aTownAnewMarks();
        allStaysOfTown();
        allStaysOfDays();
        nothingOfAFault();
        nothingOfTownsBefore();
        daysAreTheDays();
        atFirst();
        Check.end();
    }

    /** "DAYS: any number of": none */
    private static void anyNumber() {
        WallLottery x = Check.town(Check.TWO);
        Check.days(x, "draw 1;");
        Check.days(x, " \n");
        Check.due("no lines", x.count(9), 0);
        Check.due("nothing is judged", x.judged(0), -1);
    }

    /** "a SEED 0 to 9999" */
    private static void seeds() {
        WallLottery x = Check.town(Check.TWO);
        Check.days(x, "draw 0;draw 9999;draw 0000;");
        Check.due("three", x.count(9), 3);
        Check.daysFault(1, "draw @10000;");
        Check.daysFault(1, "draw @-1;");
        Check.daysFault(1, "draw @cc;");
    }

    /** "1 to 999 coins" */
    private static void coins() {
        for (String word : new String[] {"lend", "pay"}) {
            WallLottery x = Check.town(Check.TWO);
            Check.days(x, word + " cc dd 1;" + word + " cc dd 999;");
            Check.due("two", x.count(9), 2);
            Check.daysFault(4, word + " cc dd @0;");
            Check.daysFault(4, word + " cc dd @1000;");
            Check.daysFault(1, word + " cc dd @;");
        }
        Check.daysFault(1, "swap cc dd @1;");
    }

    /** "24 lines at most", "the first word of a 25th line of DAYS" */
    private static void twentyFour() {
        WallLottery x = Check.town(Check.TWO);
        String full = "swap cc dd;".repeat(23) + "draw 7;";
        Check.days(x, full);
        Check.due("24", x.count(9), 24);
        for (String line : new String[] {"draw 1;", "swap cc dd;", "lend cc dd 1;", "pay cc dd 1;", "draw", "swap aa"}) {
            Check.daysFault(5, full + "@" + line);
        }
        Check.feed(x, full + "draw 1;");
        Check.due("refused", x.days() & 15, 5);
        Check.due("24 still", x.count(9), 24);
        // the 24th is a line like any other: by 0 the two go to b and c, between which there is no wall
        WallLottery y = Check.town(Check.houses(3) + Check.families(2, 0) + Check.walls("ab") + "beside fa fb;");
        Check.days(y, "swap fa fb;".repeat(23) + "draw 0;");
        Check.due("broken behind the 24th", y.judged(1), 23);
        Check.days(y, "swap fa fb;".repeat(23) + "lend fa fb 1;");
        Check.due("the 24th can't be", y.judged(0), 23);
    }

    /** "of no FAMILY (behind ... swap, lend, pay) told" */
    private static void familiesTold() {
        for (String word : new String[] {"swap ", "lend ", "pay "}) {
            Check.daysFault(2, word + "@aa cc 1;");
            Check.daysFault(2, word + "cc @bb 1;");
            Check.daysFault(2, word + "@c dd 1;");
            Check.daysFault(2, word + "cc @ddd 1;");
            WallLottery x = new WallLottery();
            Check.feed(x, word + "cc dd 1;");
            Check.due("without a town", x.days(), 2 + 16 * word.length());
            WallLottery y = Check.town(Check.TWO);
            Check.feed(y, "house x;");
            y.town();
            Check.feed(y, word + "cc dd 1;");
            Check.due("of the town before", y.days(), 2 + 16 * word.length());
        }
    }

    /** "a second NAME that is the first one" */
    private static void notTheSame() {
        for (String word : new String[] {"swap ", "lend ", "pay "}) {
            Check.daysFault(3, word + "dd @dd 1;");
            Check.daysFault(3, word + "cc @cc");
        }
    }

    /** "draw N ;   swap NAME NAME ;   lend NAME NAME N ;   pay NAME NAME N ;": nothing else */
    private static void words() {
        for (String word : new String[] {"house a;", "joy 1;", "cc", "draws 1;", "dra 1;", "1;", ";", "(", "?"}) {
            Check.daysFault(1, "@" + word);
            Check.daysFault(1, "draw 5;@" + word);
        }
        for (String line : new String[] {"draw 1", "swap cc dd", "lend cc dd 1", "pay cc dd 1"}) {
            Check.daysFault(1, line + "@");
            Check.daysFault(1, line + " @draw 1;");
            Check.daysFault(1, line + ";@;");
        }
        Check.townFault(1, Check.TWO + "@draw 1;");
        Check.townFault(1, Check.TWO + "@swap cc dd;");
    }

    private static WallLottery lived() {
        WallLottery x = Check.town(Check.ROW);
        Check.days(x, "draw 1; swap ann bob; lend ann bob 10; pay cid ann 3;");
        x.tale(0, 1, true);
        x.tale(1, 2, false);
        for (int mark = 0; mark < 4; mark++) {
            x.mark(mark, false);
        }
        x.lend(0, 1, 2);
        x.swap(0, 2);
        x.draw(3);
        return x;
    }

    /** "no draw yet, the i-th FAMILY lives in the i-th HOUSE, coins and debts as told, no DAYS, no TALE" */
    private static void aTownAnew() {
        WallLottery x = lived();
        Check.feed(x, Check.ROW);
        Check.due("town", x.town(), 0);
        int[] due = {4, 3, 3, 1, 1, 0, 0, 17, 8, 0, 0, 0, 0};
        for (int what = 0; what < due.length; what++) {
            Check.due("count " + what, x.count(what), due[what]);
        }
        Check.samePicture("as new", Check.picture(x), Check.picture(Check.town(Check.ROW)));
    }

    /** "nothing can be undone, no MARK is there" */
    private static void aTownAnewMarks() {
        WallLottery x = lived();
        x.town();
        for (int mark = 0; mark < 4; mark++) {
            Check.due("mark " + mark, x.mark(mark, true), false);
        }
        Check.due("undo", x.undo(), false);
        Check.due("a new mark", x.mark(2, false) && x.mark(2, true), true);
    }

    /** "0, or its FAULT (all stays then).": town */
    private static void allStaysOfTown() {
        String[] wrong = {"?", "house a;house b;house c;house d;house e;house f;wall a b 9;family x lawyer loud 9 ears 9 "
            + "coins 9;family y plain loud 9 ears 9 coins 99;like x y 9;owes x y 9;apart x y;beside x y;joy 7;noise 9;"
            + "hedge 1;joy", Check.ROW + "house ann;"};
        for (String text : wrong) {
            WallLottery x = lived();
            String before = Check.picture(x);
            Check.feed(x, text);
            Check.due("a fault", x.town() != 0, true);
            Check.samePicture("all stays by " + text, Check.picture(x), before);
            Check.due("rests stay", x.family(0, 5) == 0 || x.rests(0, Integer.numberOfTrailingZeros(x.family(0, 5)), -1) == 1,
                true);
            Check.due("what was done can be undone", x.undo() && x.undo() && x.undo(), true);
            Check.due("no more than that", x.undo(), false);
            Check.due("home", x.family(0, 4), 0);
            for (int mark = 0; mark < 4; mark++) {
                Check.due("mark " + mark, x.mark(mark, true), true);
            }
        }
    }

    /** "The TAPE is read as DAYS, likewise.": with a FAULT all stays */
    private static void allStaysOfDays() {
        String[] wrong = {"?", "swap ann bob;swap ann bob;draw 5;draw", "draw 1;".repeat(25), "lend ann bob 0;"};
        for (String text : wrong) {
            WallLottery x = lived();
            String before = Check.picture(x);
            Check.feed(x, text);
            Check.due("a fault", x.days() != 0, true);
            Check.samePicture("all stays by " + text, Check.picture(x), before);
        }
    }

    /** All that a text can tell, and something wrong at its end. */
    private static final String ALL = "house a;house b;house c;house d;wall a b 9;wall c d 8;wall b c 7;wall a d 6;"
        + "family fa lawyer loud 9 ears 9 coins 9;family fb fiddler loud 8 ears 8 coins 99;"
        + "family fc sleeper loud 7 ears 7 coins 999;family fd plain loud 6 ears 6 coins 6;like fa fb 9;hate fa fb 8;"
        + "like fb fa 7;hate fb fa 6;owes fa fb 5;owes fb fa 4;apart fa fb;beside fa fb;joy 7;noise 9;hedge 1;";
    private static final String FEW = "house a;house b;family fa plain loud 1 ears 1 coins 1;";

    private static void onlyFew(String what, WallLottery x) {
        int[] due = {2, 1, 0, 0, 0, 0, 0, 1, 0, 0, 0, 0, 0};
        for (int i = 0; i < due.length; i++) {
            Check.due(what + ": count " + i, x.count(i), due[i]);
        }
        Check.due(what + ": wall", x.wall(0, 1), -1);
        Check.due(what + ": kind", x.family(0, 0), 0);
        Check.due(what + ": joy", x.joy(0), 0);
        Check.due(what + ": hope", x.hope(0), 0);
        Check.due(what + ": ways", x.how(), 2);
        Check.feed(x, "swap fa fb;");
        Check.due(what + ": no such family", x.days(), 2 + 16 * 8);
        Check.feed(x, FEW + "family fb plain loud 3 ears 4 coins 0;wall a b 1;like fa fb 2;owes fb fa 3;apart fa fb;");
        Check.due(what + ": all can be told anew", x.town(), 0);
        Check.due(what + ": felt", x.family(0, 6), 3 + 1 - 1);
        Check.due(what + ": joy of two", x.joy(0), 2 - 3);
        Check.due(what + ": hope of two", x.hope(0), -1000);
        Check.due(what + ": debts", x.count(8), 3);
        Check.due(what + ": broken", x.broken(), 1);
        Check.due(what + ": hedges", x.rests(0, 1, -1), 1);
    }

    /** "0, or its FAULT (all stays then).": nothing of a text with a FAULT is found in the next one */
    private static void nothingOfAFault() {
        for (int reads = 1; reads <= 3; reads++) {
            WallLottery x = new WallLottery();
            for (int i = 0; i < reads; i++) {
                Check.feed(x, ALL + "?");
                Check.due("fault", x.town(), 1 + 16 * ALL.length());
            }
            Check.feed(x, FEW);
            Check.due("few", x.town(), 0);
            onlyFew("behind " + reads + " faults", x);
        }
    }

    /** "Without a FAULT a TOWN is the TOWN from then on": nothing of those before is left in it */
    private static void nothingOfTownsBefore() {
        for (int reads = 1; reads <= 4; reads++) {
            WallLottery x = new WallLottery();
            for (int i = 0; i < reads; i++) {
                Check.feed(x, ALL);
                Check.due("all", x.town(), 0);
                Check.due("hope", x.hope(3), 7000);
                Check.due("ways", x.how(), 24);
                Check.due("what is owed to the lawyer stays", x.draw(i), 5);
            }
            Check.feed(x, FEW);
            Check.due("few", x.town(), 0);
            onlyFew("behind " + reads + " towns", x);
        }
        WallLottery y = new WallLottery();
        for (int many = 6; many >= 0; many--) {
            Check.feed(y, Check.houses(many) + Check.families(many, 10));
            Check.due("fewer each time", y.town(), 0);
            Check.due("coins", y.count(7), 10 * many);
            Check.due("nobody in the next house", y.house(many), -1);
        }
    }

    /** "DAYS are the DAYS.": they take the place of those before, and nothing else changes */
    private static void daysAreTheDays() {
        WallLottery x = lived();
        int undone = x.count(11);
        Check.days(x, "swap bob cid;");
        Check.due("one line", x.count(9), 1);
        Check.due("none can't be", x.judged(0), -1);
        Check.due("broken behind it", x.judged(1), 0);
        Check.due("nothing is done by them", x.count(5), 1);
        Check.due("as much can be undone", x.count(11), undone);
        Check.due("tales", x.count(10), 2);
        Check.due("marks", x.mark(1, true), true);
        Check.due("a mark holds no days", x.count(9), 1);
    }

    /** "At first: nothing." */
    private static void atFirst() {
        WallLottery x = new WallLottery();
        for (int what = 0; what <= 12; what++) {
            Check.due("count " + what, x.count(what), 0);
        }
        for (int i = -1; i <= 6; i++) {
            int number = i;
            Check.due("house", x.house(i), -1);
            Check.due("wall", x.wall(i, 0), -1);
            Check.due("family", x.family(i, 0), -1);
            Check.due("owes", x.owes(i, 1), -1);
            Check.due("swap", x.swap(i, 1), false);
            Check.due("lend", x.lend(i, 1, 1), false);
            Check.due("pay", x.pay(i, 1, 1), false);
            Check.due("odds", x.odds(i, 1), -1);
            Check.due("peace", x.peace(i, 0), -1);
            Check.due("mend", x.mend(i), i == -1 ? 0 : -2);
            Check.due("please", x.please(i), i == 0 || i == 1 ? 0 : -1);
            Check.due("quiet", x.quiet(i), i == -1 ? 0 : -2);
            Check.due("tale", x.tale(i, 1, true), false);
            Check.due("were", x.were(i, 1), -1);
            Check.due("tampered", x.tampered(i, 1, 1, 1), -1);
            Check.none("joy", () -> x.joy(number));
            Check.none("hope", () -> x.hope(number));
            Check.none("rests", () -> x.rests(number, 1, -1));
            Check.none("gains", () -> x.gains(number));
        }
        Check.due("broken", x.broken(), 0);
        Check.due("how", x.how(), 1);
        Check.due("ask", x.ask(), -1);
        for (int what = 0; what < 3; what++) {
            Check.due("judged", x.judged(what), what < 2 ? -1 : 0);
            Check.due("centuries", x.centuries(1, 60, what), 0);
        }
        Check.due("undo", x.undo(), false);
        Check.due("draw", x.draw(9999), 0);
        Check.due("draws", x.count(5), 1);
    }
}
