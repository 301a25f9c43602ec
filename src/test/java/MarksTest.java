/** Promises 30 to 32: centuries, mark, count. */
public final class MarksTest {
    private static final int[] WRONG = {-1, 4, 6, Integer.MAX_VALUE, Integer.MIN_VALUE};

    public static void main(String[] args) {
        centuries();
        nothingChanges();
        marks();
        counts();
        Check.end();
    }

    private static void centuries() {
        // By 0 in a town of two, who are always neighbours, the DRAWS are 0 and 21468, so 0 lends to 0: nothing;
        // 9988 below 10 is 8: no swap; then 22117 below 2 is 1: all stay. What is owed lapses: 4.
        String land = "house a;house b;wall a b 1;family f plain loud 0 ears 0 coins 99;"
            + "family g plain loud 1 ears 0 coins 99;owes f g 4;apart f g;apart g f;beside f g;joy 0 - felt;";
        WallLottery x = Check.town(land + "noise 1 < loudness + 1;");
        Check.due("content: g alone", x.centuries(0, 1, 0), 1);
        Check.due("broken: both aparts", x.centuries(0, 1, 1), 2);
        Check.due("lapsed", x.centuries(0, 1, 2), 4);
        Check.due("content by 60", x.centuries(0, 60, 0), 60);
        Check.due("broken by 60", x.centuries(0, 60, 1), 120);
        // only what is lent can lapse behind the first, and a coin is lent when two different ones are drawn
        int lent = 0;
        long g = 0;
        for (int i = 0; i < 60; i++) {
            int[] drawn = new int[3];
            for (int j = 0; j < 3; j++) {
                g = (g * 1103515245L + 12345) % 2147483648L;
                drawn[j] = (int) (g / 65536 % (j < 2 ? 2 : 10));
            }
            lent += drawn[0] != drawn[1] ? 1 : 0;
            for (int j = drawn[2] == 0 ? 3 : 1; j > 0; j--) {
                g = (g * 1103515245L + 12345) % 2147483648L;
            }
        }
        Check.due("lapsed by 60", x.centuries(0, 60, 2), 4 + lent);
        for (int bad : new int[] {-1, 10000, Integer.MAX_VALUE, Integer.MIN_VALUE}) {
            Check.due("seed " + bad, x.centuries(bad, 1, 0), -1);
        }
        for (int bad : new int[] {-1, 0, 61, Integer.MAX_VALUE, Integer.MIN_VALUE}) {
            Check.due("draws " + bad, x.centuries(0, bad, 0), -1);
        }
        for (int bad : new int[] {-1, 3, Integer.MAX_VALUE, Integer.MIN_VALUE}) {
            Check.due("what " + bad, x.centuries(0, 1, bad), -1);
        }
        Check.due("one alone is content", Check.town("house a;family f plain loud 0 ears 0 coins 0;")
            .centuries(9999, 60, 0), 60);
        Check.due("nobody is", new WallLottery().centuries(0, 60, 0), 0);
        Check.due("no walls, nothing lapses", Check.town(Check.TWO + "owes cc dd 9;").centuries(5, 60, 2), 0);
    }

    private static void nothingChanges() {
        WallLottery x = Check.town(Check.ROW);
        x.swap(0, 1);
        int[] before = new int[13];
        for (int what = 0; what < 13; what++) {
            before[what] = x.count(what);
        }
        x.centuries(77, 60, 2);
        for (int what = 0; what < 13; what++) {
            Check.due("count " + what + " is as ahead", x.count(what), before[what]);
        }
        Check.due("home", x.family(0, 4), 1);
        Check.due("owes", x.owes(0, 1), 5);
        int first = x.centuries(77, 60, 2);
        x.draw(1);
        x.undo();
        Check.due("what lapsed by hand is not counted", x.centuries(77, 60, 2), first);
        x.mark(0, false);
        x.draw(1);
        x.mark(0, true);
        Check.due("all is as ahead", x.centuries(77, 60, 2), first);
        x.draw(1);
        Check.due("from now on: nothing of what has lapsed", x.centuries(77, 1, 2) <= 3 + 1, true);
    }

    private static void marks() {
        WallLottery x = Check.town(Check.ROW);
        for (int mark = 0; mark < 4; mark++) {
            Check.due("nothing on it", x.mark(mark, true), false);
        }
        for (int bad : WRONG) {
            Check.due("lay " + bad, x.mark(bad, false), false);
            Check.due("back to " + bad, x.mark(bad, true), false);
        }
        x.tale(0, 1, true);
        Check.due("lay", x.mark(0, false), true);
        x.lend(0, 1, 4);
        x.swap(0, 1);
        // ann lives between the others now: all debts lapse
        Check.due("draw", x.draw(2), 5 + 4 + 3);
        x.tale(0, 2, false);
        Check.due("lay another", x.mark(3, false), true);
        Check.due("laying leaves what can be undone", x.count(11), 3);
        int home = x.family(0, 4);

        Check.due("back", x.mark(0, true), true);
        Check.due("home", x.family(0, 4), 0);
        Check.due("coins", x.family(0, 3), 10);
        Check.due("debts", x.count(8), 8);
        Check.due("draws", x.count(5), 0);
        Check.due("lapsed", x.count(6), 0);
        Check.due("tales", x.count(10), 1);
        Check.due("ways", x.how(), 12);
        Check.due("nothing can be undone", x.undo(), false);

        Check.due("forth", x.mark(3, true), true);
        Check.due("home", x.family(0, 4), home);
        Check.due("coins", x.family(0, 3), 6);
        Check.due("debts", x.count(8), 0);
        Check.due("draws", x.count(5), 1);
        Check.due("lapsed", x.count(6), 12);
        Check.due("tales", x.count(10), 2);
        Check.due("1 and 2 hold nothing", x.mark(1, true) || x.mark(2, true), false);

        x.swap(0, 1);
        Check.due("laid anew", x.mark(0, false), true);
        x.swap(0, 1);
        Check.due("back to the new one", x.mark(0, true) && x.family(1, 4) == home, true);
        Check.due("a mark stays", x.mark(0, true), true);
    }

    private static void counts() {
        WallLottery x = Check.town(Check.ROW);
        Check.days(x, "draw 1;draw 2;");
        x.tale(0, 1, true);
        x.swap(0, 1);
        x.draw(0);
        Check.feed(x, "house");
        int[] due = {4, 3, 3, 1, 1, 1, 5 + 3, 17, 0, 2, 1, 2, 5};
        for (int what = 0; what < due.length; what++) {
            Check.due("count " + what, x.count(what), due[what]);
        }
        for (int bad : new int[] {-1, 13, Integer.MAX_VALUE, Integer.MIN_VALUE}) {
            Check.due("count " + bad, x.count(bad), -1);
        }
    }
}
