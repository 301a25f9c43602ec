/** Promises 17 to 19 and 29: odds, peace, hope, tampered. */
public final class OddsTest {
    private static final int[] WRONG = {-1, 3, 6, Integer.MAX_VALUE, Integer.MIN_VALUE};

    /** Three houses, one wall, two families: six ways, by two of which they are neighbours. */
    private static final String THREE = "house a;house b;house c;wall a b 1;family f plain loud 3 ears 0 coins 0;"
        + "family g plain loud 8 ears 2 coins 0;like f g 4;";

    public static void main(String[] args) {
        odds();
        peace();
        hope();
        tampered();
        Check.end();
    }

    private static void odds() {
        WallLottery x = Check.town(Check.ROW);
        Check.due("three walls of six pairs", x.odds(0, 1), 500000);
        Check.due("the other way", x.odds(2, 0), 500000);
        Check.due("the same", x.odds(1, 1), -1);
        for (int bad : WRONG) {
            Check.due("odds " + bad, x.odds(bad, 0), -1);
            Check.due("odds 0 " + bad, x.odds(0, bad), -1);
        }
        Check.due("cut", Check.town(THREE).odds(0, 1), 333333);
        Check.due("no wall", Check.town(Check.TWO).odds(0, 1), 0);
        Check.due("always", Check.town(Check.TWO + "wall aa bb 1;").odds(0, 1), 1000000);
        x.draw(4);
        Check.due("wherever they live", x.odds(0, 1), 500000);
    }

    private static void peace() {
        // f feels 8 + 0 - 1 by two of six ways, g 3 + 2 - 1
        WallLottery x = Check.town(THREE);
        Check.due("f 0", x.peace(0, 0), 666666);
        Check.due("f 6", x.peace(0, 6), 666666);
        Check.due("f 7", x.peace(0, 7), 1000000);
        Check.due("f 999", x.peace(0, 999), 1000000);
        Check.due("g 3", x.peace(1, 3), 666666);
        Check.due("g 4", x.peace(1, 4), 1000000);
        Check.due("less than 0", x.peace(0, -1), -1);
        Check.due("1000", x.peace(0, 1000), -1);
        for (int bad : new int[] {-1, 2, 6, Integer.MAX_VALUE, Integer.MIN_VALUE}) {
            Check.due("peace " + bad, x.peace(bad, 5), -1);
        }
        Check.due("never", Check.town(Check.TWO + "wall aa bb 1;noise 1;").peace(0, 0), 0);
        StringBuilder star = new StringBuilder();
        for (char c = 'a'; c <= 'f'; c++) {
            star.append("house ").append(c).append(";family f").append(c).append(" plain loud 9 ears 9 coins 0;");
        }
        for (char c = 'b'; c <= 'f'; c++) {
            star.append("wall a ").append(c).append(" 1;");
        }
        WallLottery loud = Check.town(star + "noise 99;");
        Check.due("495 are felt in the middle", loud.family(0, 6), 495);
        Check.due("in the middle one time of six", loud.peace(3, 494), 833333);
        Check.due("495", loud.peace(3, 495), 1000000);
        Check.due("all of it", loud.quiet(-1), 990);
    }

    private static void hope() {
        // f: 4 - 7 by two of six ways, g: 0 - 4; 0 by the others
        WallLottery x = Check.town(THREE);
        Check.due("f", x.hope(0), -1000);
        Check.due("g: cut as / does", x.hope(1), -1333);
        for (int bad : new int[] {-1, 2, 6, Integer.MAX_VALUE, Integer.MIN_VALUE}) {
            Check.none("hope " + bad, () -> x.hope(bad));
        }
        Check.due("ann", Check.town(Check.ROW).hope(0), -3333);
        Check.due("each joy is bound first", Check.town(THREE + "joy 9999 * near;").hope(0), 333000);
    }

    private static void tampered() {
        WallLottery x = Check.town(THREE);
        Check.due("once of one", x.tampered(0, 1, 1, 1), 333333);
        Check.due("none or more", x.tampered(0, 1, 1, 0), 1000000);
        Check.due("once of two: 5 of 9", x.tampered(0, 1, 2, 1), 555555);
        Check.due("twice of two: 1 of 9", x.tampered(1, 0, 2, 2), 111111);
        Check.due("twice of three: 7 of 27", x.tampered(0, 1, 3, 2), 259259);
        Check.due("thrice of six: 233 of 729", x.tampered(0, 1, 6, 3), 319615);
        Check.due("six of six: 1 of 729", x.tampered(0, 1, 6, 6), 1371);
        Check.due("six draws, none or more", x.tampered(0, 1, 6, 0), 1000000);
        Check.due("the same", x.tampered(0, 0, 1, 1), -1);
        Check.due("no draws", x.tampered(0, 1, 0, 0), -1);
        Check.due("seven draws", x.tampered(0, 1, 7, 1), -1);
        Check.due("more times than draws", x.tampered(0, 1, 2, 3), -1);
        Check.due("fewer than none", x.tampered(0, 1, 2, -1), -1);
        for (int bad : new int[] {-1, 2, 6, Integer.MAX_VALUE, Integer.MIN_VALUE}) {
            Check.due("tampered " + bad, x.tampered(bad, 0, 1, 1), -1);
            Check.due("tampered 0 " + bad, x.tampered(0, bad, 1, 1), -1);
        }
        Check.due("never", Check.town(Check.TWO).tampered(0, 1, 6, 1), 0);
        Check.due("always", Check.town(Check.TWO + "wall aa bb 1;").tampered(0, 1, 6, 6), 1000000);
    }
}
