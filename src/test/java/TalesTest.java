/** Promises 24 to 28: tale, how, were, ask, gains. */
public final class TalesTest {
    private static final int[] WRONG = {-1, 3, 6, Integer.MAX_VALUE, Integer.MIN_VALUE};

    public static void main(String[] args) {
        tales();
        contradiction();
        asking();
        gains();
        Check.end();
    }

    private static void tales() {
        WallLottery x = Check.town(Check.ROW);
        Check.due("all ways", x.how(), 24);
        Check.due("some", x.were(0, 1), 2);
        Check.due("the first of equal ones", x.ask(), 1);
        Check.due("tale", x.tale(1, 0, true), true);
        Check.due("half", x.how(), 12);
        Check.due("all", x.were(0, 1), 1);
        Check.due("all, the other way", x.were(1, 0), 1);
        Check.due("told already", x.ask(), 2);
        Check.due("not", x.tale(0, 2, false), true);
        Check.due("none", x.were(2, 0), 0);
        Check.due("ways", x.how(), 8);
        Check.due("the same", x.tale(1, 1, true), false);
        Check.due("were the same", x.were(1, 1), -1);
        for (int bad : WRONG) {
            Check.due("tale " + bad, x.tale(bad, 0, true), false);
            Check.due("tale 0 " + bad, x.tale(0, bad, false), false);
            Check.due("were " + bad, x.were(bad, 0), -1);
            Check.due("were 0 " + bad, x.were(0, bad), -1);
        }
        Check.due("two tales", x.count(10), 2);
        for (int i = 3; i <= 10; i++) {
            Check.due("tale " + i, x.tale(0, 1, true), true);
        }
        Check.due("10 are told", x.tale(0, 1, true), false);
        Check.due("10", x.count(10), 10);
        Check.due("ways as ahead", x.how(), 8);
        Check.due("who lives where is of no matter", x.draw(3) >= 0 && x.how() == 8, true);
    }

    private static void contradiction() {
        WallLottery x = Check.town(Check.ROW);
        x.tale(0, 1, true);
        x.tale(1, 0, false);
        Check.due("no way", x.how(), 0);
        Check.due("were, by no way", x.were(0, 1), -1);
        Check.due("ask, by no way", x.ask(), -1);
        WallLottery y = Check.town(Check.TWO);
        Check.due("never neighbours", y.were(0, 1), 0);
        Check.due("nothing to ask", y.ask(), -1);
        WallLottery z = Check.town(Check.TWO + "wall aa bb 1;");
        Check.due("always neighbours", z.were(0, 1), 1);
        Check.due("nothing to ask of them", z.ask(), -1);
        WallLottery one = Check.town("house a;house b;family f plain loud 0 ears 0 coins 0;");
        Check.due("two ways for one", one.how(), 2);
        Check.due("one has no one to be asked about", one.ask(), -1);
    }

    private static void asking() {
        // four in a row: when 0 and 1 were neighbours and 0 and 2 too, 3 is beside 1 or 2 and never beside 0
        WallLottery x = Check.town("house a;house b;house c;house d;wall a b 1;wall b c 1;wall c d 1;"
            + "family f plain loud 0 ears 0 coins 0;family g plain loud 0 ears 0 coins 0;"
            + "family h plain loud 0 ears 0 coins 0;family i plain loud 0 ears 0 coins 0;");
        Check.due("ways", x.how(), 24);
        x.tale(0, 1, true);
        x.tale(2, 0, true);
        Check.due("ways left", x.how(), 4);
        Check.due("0 and 3", x.were(0, 3), 0);
        Check.due("1 and 3", x.were(1, 3), 2);
        Check.due("ask about 1 and 3", x.ask(), 9);
        x.tale(1, 3, false);
        Check.due("2 and 3", x.were(3, 2), 1);
        Check.due("nothing parts them", x.ask(), -1);
        Check.due("two ways yet", x.how(), 2);
    }

    private static void gains() {
        String land = "house a;house b;house c;wall a b 1;wall b c 1;family f plain loud 0 ears 0 coins 9;"
            + "family g lawyer loud 0 ears 0 coins 9;family h plain loud 0 ears 0 coins 9;"
            + "owes f g 10;owes g f 20;owes f h 30;owes h f 40;owes g h 50;owes h g 60;";
        WallLottery x = Check.town(land);
        Check.due("f", x.gains(0), -20);
        Check.due("g", x.gains(1), 70);
        Check.due("h", x.gains(2), -50);
        x.swap(0, 1);
        Check.due("f between", x.gains(0), 30 - 40 - 20);
        Check.due("g aside", x.gains(1), 20);
        Check.due("h beside f", x.gains(2), 40 - 30);
        for (int bad : WRONG) {
            Check.none("gains " + bad, () -> x.gains(bad));
        }
        Check.due("nothing lapses by asking", x.count(8), 210);
    }
}
