/** Promise 4: days. In a text here @ stands ahead of the token that is wrong. */
public final class DaysTest {
    public static void main(String[] args) {
        right();
        wrong();
        stays();
        Check.end();
    }

    private static void fault(int kind, String marked) {
        Check.daysFault(kind, marked);
    }

    private static void right() {
        WallLottery x = Check.town(Check.TWO);
        Check.days(x, "draw 0;draw 9999;swap cc dd;lend cc dd 1;lend dd cc 999;pay cc dd 1;\npay dd cc 999 ; ");
        Check.due("lines", x.count(9), 7);
        Check.days(x, "draw 1;".repeat(24));
        Check.due("24 lines", x.count(9), 24);
        Check.days(x, "");
        Check.due("no lines", x.count(9), 0);
        WallLottery empty = new WallLottery();
        Check.days(empty, "draw 5;");
        Check.due("without a town", empty.count(9), 1);
    }

    private static void wrong() {
        fault(1, "@;");
        fault(1, "@cc");
        fault(1, "@house a;");
        fault(1, "@1");
        fault(1, "@#");
        fault(1, "draw @;");
        fault(1, "draw @cc;");
        fault(1, "draw @10000;");
        fault(1, "draw 1@");
        fault(1, "draw 1 @draw 2;");
        fault(1, "draw 1;@;");
        for (String word : new String[] {"swap ", "lend ", "pay "}) {
            fault(1, word + "@;");
            fault(1, word + "@draw");
            fault(1, word + "cc@;");
            fault(2, word + "@aa dd");
            fault(2, word + "cc @bb");
            fault(2, word + "cc @xx");
            fault(3, word + "cc @cc");
        }
        fault(1, "swap cc dd @1;");
        fault(1, "lend cc dd @;");
        fault(1, "pay cc dd@");
        fault(1, "pay cc dd 1@");
        fault(4, "lend cc dd @0;");
        fault(4, "lend cc dd @1000;");
        fault(4, "pay cc dd @0;");
        fault(4, "pay cc dd @1000;");
        String full = "draw 1;".repeat(24);
        fault(5, full + "@draw");
        fault(5, full + "@swap cc dd;");
        fault(5, full + "@lend");
        fault(5, full + "@pay xx");
        fault(1, full + "@cc");
    }

    private static void stays() {
        WallLottery x = Check.town(Check.TWO);
        Check.days(x, "draw 1;draw 2;");
        Check.feed(x, "draw 1;draw 2;draw 3;draw");
        Check.due("fault", x.days(), 1 + 16 * 25);
        Check.due("the days before stay", x.count(9), 2);
        Check.due("days do nothing by themselves", x.count(5), 0);
    }
}
