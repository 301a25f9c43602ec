import java.util.ArrayList;
import java.util.Collections;
import java.util.List;

/** The edges of what is so and of years by hand: a test for each sentence that names one, under its words. */
public final class YearEdgesTest {
    private static final int MOST = Integer.MAX_VALUE;
    private static final int LEAST = Integer.MIN_VALUE;

    public static void main(String[] args) {
        houseOf();
        wallBetween();
        familyAndWhat();
        joyOf();
        owesTo();
        neighbours();
        kindsChange();
        untoldLaws();
        feltBounds();
        feltTogether();
        joyBounds();
        content();
        truth();
        wrap();
        apartAndBeside();
        brokenBits();
        drawSeeds();
        drawOfFewHouses();
        drawRows();
        drawLapses();
        drawAndLawyers();
        swapTwo();
        lendBounds();
        lendNeighbours();
        lendCoins();
        payBounds();
        payCoins();
        payDebts();
        undoNothing();
        undoSixteen();
        undoRound();
        undoEach();
        refusedChangeNothing();
        judgedWhat();
        judgedNothing();
        judgedFromTheBegin();
        judgedLeftOut();
        judgedBroken();
        judgedLapsed();
        Check.end();
    }

    /** "The FAMILY of a HOUSE; NONE: others, nobody." */
    private static void houseOf() {
        WallLottery x = Check.town(Check.houses(6) + Check.families(5, 0));
        for (int house = 0; house < 5; house++) {
            Check.due("house " + house, x.house(house), house);
        }
        Check.due("nobody", x.house(5), -1);
        for (int bad : new int[] {-1, 6, 7, MOST, LEAST}) {
            Check.due("house " + bad, x.house(bad), -1);
        }
        WallLottery y = Check.town(Check.houses(6) + Check.families(6, 0));
        Check.due("the last one", y.house(5), 5);
        WallLottery few = Check.town(Check.houses(2) + Check.families(1, 0));
        for (int house = 1; house < 6; house++) {
            Check.due("nobody in " + house, few.house(house), -1);
        }
    }

    /** "How thick the wall between two HOUSES is; NONE: others, none." */
    private static void wallBetween() {
        WallLottery x = Check.town(Check.houses(6) + "wall a f 9;wall f b 1;");
        Check.due("first and last", x.wall(0, 5), 9);
        Check.due("last and first", x.wall(5, 0), 9);
        Check.due("thin", x.wall(1, 5), 1);
        Check.due("none", x.wall(0, 1), -1);
        Check.due("the same", x.wall(5, 5), -1);
        for (int bad : new int[] {-1, 6, 30, 35, MOST, LEAST}) {
            Check.due("wall " + bad + " 5", x.wall(bad, 5), -1);
            Check.due("wall 5 " + bad, x.wall(5, bad), -1);
            Check.due("wall " + bad + " itself", x.wall(bad, bad), -1);
        }
        Check.due("of fewer houses", Check.town(Check.houses(2) + Check.walls("ab")).wall(1, 2), -1);
    }

    /** "Of a FAMILY, what 0: KIND ..., 7: 1 CONTENT; NONE: others." */
    private static void familyAndWhat() {
        WallLottery x = Check.town(Check.houses(6) + Check.families(6, 3));
        Check.due("the last of six", x.family(5, 3), 3);
        Check.due("what 7", x.family(5, 7), 1);
        for (int bad : new int[] {-1, 8, 9, MOST, LEAST}) {
            Check.due("what " + bad, x.family(5, bad), -1);
        }
        for (int bad : new int[] {-1, 6, 7, MOST, LEAST}) {
            for (int what = 0; what < 8; what++) {
                Check.due("family " + bad + " what " + what, x.family(bad, what), -1);
            }
        }
        WallLottery few = Check.town(Check.houses(6) + Check.families(2, 3));
        for (int what = 0; what < 8; what++) {
            Check.due("no third one, what " + what, few.family(2, what), -1);
        }
    }

    /** "JOY of a FAMILY. NoSuchElementException: others." */
    private static void joyOf() {
        WallLottery x = Check.town(Check.houses(6) + Check.families(2, 0) + "joy 4;");
        Check.due("the last one", x.joy(1), 4);
        for (int bad : new int[] {-1, 2, 5, 6, MOST, LEAST}) {
            Check.none("joy " + bad, () -> x.joy(bad));
        }
    }

    /** "What one owes another one; NONE: others, the same." */
    private static void owesTo() {
        WallLottery x = Check.town(Check.houses(6) + Check.families(3, 0) + "owes fa fc 9;");
        Check.due("owes", x.owes(0, 2), 9);
        Check.due("nothing", x.owes(2, 0), 0);
        for (int i = 0; i < 3; i++) {
            Check.due("the same", x.owes(i, i), -1);
        }
        for (int bad : new int[] {-1, 3, 6, MOST, LEAST}) {
            Check.due("owes " + bad, x.owes(bad, 0), -1);
            Check.due("owes 0 " + bad, x.owes(0, bad), -1);
        }
    }

    /** "NEIGHBOURS are two FAMILIES between whose HOUSES there is a wall." */
    private static void neighbours() {
        WallLottery x = Check.town(Check.houses(6) + Check.families(5, 0) + Check.walls("af fb ab"));
        Check.due("a house where nobody lives makes none", x.family(0, 5), 2);
        Check.due("nor for the other", x.family(1, 5), 1);
        Check.due("no wall", x.family(2, 5), 0);
        WallLottery all = Check.town(Check.houses(6) + Check.families(6, 0)
            + Check.walls("ab ac ad ae af bc bd be bf cd ce cf de df ef"));
        for (int family = 0; family < 6; family++) {
            Check.due("all but oneself", all.family(family, 5), 63 - (1 << family));
        }
    }

    /** "A fiddler is twice as loud as told; a sleeper's hearing is 0." */
    private static void kindsChange() {
        String[] kinds = {"plain", "fiddler", "sleeper", "lawyer"};
        for (int i = 0; i < 4; i++) {
            WallLottery x = Check.town("house a;house b;wall a b 1;family f " + kinds[i] + " loud 9 ears 9 coins 0;"
                + "family g plain loud 4 ears 5 coins 0;");
            Check.due(kinds[i] + ": loud", x.family(0, 1), i == 1 ? 18 : 9);
            Check.due(kinds[i] + ": hearing", x.family(0, 2), i == 2 ? 0 : 9);
            Check.due(kinds[i] + ": what it feels", x.family(0, 6), 4 - 1 + (i == 2 ? 0 : 9));
            Check.due(kinds[i] + ": what is felt of it", x.family(1, 6), 5 - 1 + (i == 1 ? 18 : 9));
        }
        Check.due("twice nothing", Check.town("house a;family f fiddler loud 0 ears 0 coins 0;").family(0, 1), 0);
    }

    /** "Without noise: loudness + hearing - brick; without joy: fond - felt; without hedge: his * 2 - mine + fond." */
    private static void untoldLaws() {
        String land = "house a;house b;wall a b 3;family f plain loud 2 ears 5 coins 0;"
            + "family g plain loud 7 ears 1 coins 0;like f g 4;hate f g 1;hate g f 6;";
        WallLottery x = Check.town(land);
        Check.due("7 + 5 - 3", x.family(0, 6), 9);
        Check.due("2 + 1 - 3", x.family(1, 6), 0);
        Check.due("3 - 9", x.joy(0), -6);
        Check.due("-6 - 0", x.joy(1), -6);
        // his * 2 - mine: to keep one's own is always better
        Check.due("one rest", x.rests(0, 1, -1), 1);
        Check.due("both keep", x.rests(0, 1, 0), 0);
    }

    /** "of each NEIGHBOUR the E of noise (0 to 99)" */
    private static void feltBounds() {
        int[][] due = {{98, 98}, {99, 99}, {100, 99}, {9999, 99}, {1, 1}, {0, 0}};
        for (int[] one : due) {
            Check.due("noise " + one[0], Check.town(Check.TWO + "wall aa bb 1;noise " + one[0] + ";").family(0, 6), one[1]);
        }
        Check.due("below 0", Check.town(Check.TWO + "wall aa bb 1;noise 0 - 1;").family(0, 6), 0);
        Check.due("far below", Check.town(Check.TWO + "wall aa bb 1;noise 0 - 9999 * 9999;").family(0, 6), 0);
        Check.due("the least int", Check.town(Check.TWO + "wall aa bb 1;noise 256 * 256 * 256 * 128;").family(0, 6), 0);
    }

    /** "of each NEIGHBOUR the E of noise (0 to 99), together" */
    private static void feltTogether() {
        String land = Check.houses(6) + Check.families(6, 0) + "wall a b 1;wall a c 2;wall a d 3;wall a e 4;wall a f 5;";
        WallLottery most = Check.town(land + "noise 100;joy felt;");
        Check.due("five times 99", most.family(0, 6), 495);
        Check.due("joy by it", most.joy(0), 495);
        Check.due("once", most.family(5, 6), 99);
        // one that is below 0 takes nothing from the others: 4 + 2 + 0 + 0 + 0
        Check.due("each is bound by itself", Check.town(land + "noise 6 - brick * 2;").family(0, 6), 6);
        Check.due("nobody near", Check.town(Check.houses(1) + Check.families(1, 0) + "noise 5;").family(0, 6), 0);
    }

    /** "JOY: the E of joy (-999 to 999)" */
    private static void joyBounds() {
        int[] numbers = {998, 999, 1000, 1001, 9999};
        for (int number : numbers) {
            String land = Check.houses(1) + Check.families(1, 0) + "joy ";
            Check.due("joy " + number, Check.town(land + number + ";").joy(0), Math.min(number, 999));
            Check.due("joy -" + number, Check.town(land + "0 - " + number + ";").joy(0), Math.max(-number, -999));
        }
    }

    /** "CONTENT: JOY is 0 or more." */
    private static void content() {
        String land = Check.houses(1) + Check.families(1, 0) + "joy ";
        Check.due("0", Check.town(land + "0;").family(0, 7), 1);
        Check.due("1", Check.town(land + "1;").family(0, 7), 1);
        Check.due("-1", Check.town(land + "0 - 1;").family(0, 7), 0);
        Check.due("one of -1 in please", Check.town(land + "0 - 1;").please(0), 0);
        Check.due("one of 0 in please", Check.town(land + "0;").please(0), 1);
        Check.due("one of -1 in centuries", Check.town(land + "0 - 1;").centuries(1, 9, 0), 0);
        Check.due("one of 0 in centuries", Check.town(land + "0;").centuries(1, 9, 0), 9);
    }

    private static void law(String text, int due) {
        Check.due("joy " + text, Check.town(Check.houses(1) + Check.families(1, 0) + "joy " + text + ";").joy(0), due);
    }

    /** "Of not, and, or, < and = comes 1 or 0; what is not 0 is so" */
    private static void truth() {
        String[] values = {"0", "1", "2", "(0 - 1)", "(256 * 256 * 256 * 128)"};
        for (String a : values) {
            boolean first = !a.equals("0");
            law("not " + a, first ? 0 : 1);
            for (String b : values) {
                boolean second = !b.equals("0");
                law(a + " and " + b, first && second ? 1 : 0);
                law(a + " or " + b, first || second ? 1 : 0);
                law(a + " = " + b, a.equals(b) ? 1 : 0);
            }
        }
        law("1 < 2", 1);
        law("2 < 2", 0);
        law("3 < 2", 0);
        law("(0 - 1) < 0", 1);
        law("0 < (0 - 1)", 0);
        law("256 * 256 * 256 * 128 < 256 * 256 * 256 * 128 - 1", 1);
    }

    /** "ints wrap" */
    private static void wrap() {
        law("256 * 256 * 256 * 256", 0);
        law("256 * 256 * 256 * 128 - 1 = 256 * 256 * 256 * 127 + 256 * 256 * 255 + 256 * 255 + 255", 1);
        law("256 * 256 * 256 * 128 - 1 < 0", 0);
        law("256 * 256 * 256 * 127 + 256 * 256 * 256 < 0", 1);
        law("0 - 256 * 256 * 256 * 128 = 256 * 256 * 256 * 128", 1);
        law("9999 * 9999 * 9999 - " + 7 + " < 0", 9999 * 9999 * 9999 - 7 < 0 ? 1 : 0);
        law("9999 * 9999 * 9999 * 0", 0);
    }

    /** "A custom is BROKEN: apart, if these are NEIGHBOURS; beside, if they are not." */
    private static void apartAndBeside() {
        String near = Check.TWO + "wall aa bb 1;";
        Check.due("apart, near", Check.town(near + "apart dd cc;").broken(), 1);
        Check.due("apart, far", Check.town(Check.TWO + "apart dd cc;").broken(), 0);
        Check.due("beside, near", Check.town(near + "beside dd cc;").broken(), 0);
        Check.due("beside, far", Check.town(Check.TWO + "beside dd cc;").broken(), 16);
        Check.due("both, near", Check.town(near + "beside dd cc;apart cc dd;").broken(), 1);
        Check.due("both, far", Check.town(Check.TWO + "beside dd cc;apart cc dd;").broken(), 16);
    }

    /** "Customs that are BROKEN as bits: those of apart from 0 on, those of beside from 4 on." */
    private static void brokenBits() {
        String land = Check.houses(4) + Check.families(4, 0) + Check.walls("ab");
        for (int at = 0; at < 4; at++) {
            StringBuilder aparts = new StringBuilder();
            StringBuilder besides = new StringBuilder();
            for (int i = 0; i < 4; i++) {
                aparts.append(i == at ? "apart fb fa;" : "apart fc fd;");
                besides.append(i == at ? "beside fd fc;" : "beside fa fb;");
            }
            Check.due("apart " + at, Check.town(land + aparts).broken(), 1 << at);
            Check.due("beside " + at, Check.town(land + besides).broken(), 16 << at);
            Check.due("both " + at, Check.town(land + besides + aparts).broken(), 17 << at);
        }
    }

    /** "DRAW by a SEED (0 to 9999): what lapses; NONE: others." */
    private static void drawSeeds() {
        for (int bad : new int[] {-1, 10000, MOST, LEAST}) {
            WallLottery x = Check.town(Check.ROW);
            String before = Check.picture(x);
            Check.due("draw " + bad, x.draw(bad), -1);
            Check.samePicture("nothing by " + bad, Check.picture(x), before);
        }
        Check.due("0", Check.town(Check.ROW).draw(0), 5);
        Check.due("9999", Check.town(Check.ROW).draw(9999), 5);
    }

    /** "from the last one on to the second": no HOUSE, one HOUSE */
    private static void drawOfFewHouses() {
        WallLottery none = Check.town("");
        Check.due("no house", none.draw(3), 0);
        Check.due("is a draw", none.count(5), 1);
        WallLottery one = Check.town(Check.houses(1) + Check.families(1, 0));
        Check.due("one house", one.draw(3), 0);
        Check.due("it lives there", one.family(0, 4), 0);
        WallLottery empty = Check.town(Check.houses(6));
        Check.due("nobody", empty.draw(3), 0);
        Check.due("nobody lives there", empty.house(0), -1);
    }

    /** "A DRAW below m: g becomes (g * 1103515245 + 12345) modulo 2147483648 ...; it is g / 65536, cut, modulo m." */
    private static void drawRows() {
        for (int houses = 2; houses <= 6; houses++) {
            for (int families = houses - 1; families <= houses; families++) {
                WallLottery x = Check.town(Check.houses(houses) + Check.families(families, 0));
                for (int seed : new int[] {0, 1, 2, 77, 1234, 5000, 9998, 9999}) {
                    List<Integer> row = drawn(seed, houses);
                    x.draw(seed);
                    for (int family = 0; family < families; family++) {
                        Check.due("draw " + seed + " of " + houses, x.family(family, 4), row.get(family));
                    }
                }
                // what was drawn before is of no matter: the row begins by numbers again
                Check.due("draws", x.count(5), 8);
            }
        }
    }

    private static List<Integer> drawn(int seed, int houses) {
        List<Integer> row = new ArrayList<>();
        for (int i = 0; i < houses; i++) {
            row.add(i);
        }
        long g = seed;
        for (int last = houses - 1; last >= 1; last--) {
            g = (g * 1103515245L + 12345L) % 2147483648L;
            Collections.swap(row, last, (int) (g / 65536 % (last + 1)));
        }
        return row;
    }

    /** "first all debts between NEIGHBOURS lapse": by where they live ahead of the draw, and no others */
    private static void drawLapses() {
        String land = Check.houses(3) + Check.families(3, 9) + Check.walls("ab") + "owes fa fb 99;owes fb fa 1;"
            + "owes fa fc 7;owes fc fb 8;";
        WallLottery x = Check.town(land);
        Check.due("both ways", x.draw(0), 100);
        Check.due("to one who is far", x.owes(0, 2), 7);
        Check.due("of one who is far", x.owes(2, 1), 8);
        Check.due("lapsed", x.count(6), 100);
        Check.due("coins are as ahead", x.count(7), 27);
        WallLottery none = Check.town(Check.houses(2) + Check.families(2, 0) + "owes fa fb 9;");
        Check.due("no wall, nothing lapses", none.draw(5), 0);
        Check.due("nothing has", none.count(6), 0);
        Check.due("owed still", none.count(8), 9);
    }

    /** "(not what is owed to a lawyer)" */
    private static void drawAndLawyers() {
        String land = "house a;house b;wall a b 1;family f lawyer loud 0 ears 0 coins 5;";
        WallLottery x = Check.town(land + "family g plain loud 0 ears 0 coins 0;owes f g 4;owes g f 6;");
        Check.due("what a lawyer owes", x.draw(1), 4);
        Check.due("what is owed to it", x.owes(1, 0), 6);
        WallLottery both = Check.town(land + "family g lawyer loud 0 ears 0 coins 0;owes f g 4;owes g f 6;");
        Check.due("among lawyers nothing", both.draw(1), 0);
        Check.due("all is owed", both.count(8), 10);
    }

    /** "SWAP: true; false: others, the same." */
    private static void swapTwo() {
        WallLottery x = Check.town(Check.houses(6) + Check.families(5, 0));
        String before = Check.picture(x);
        for (int bad : new int[] {-1, 5, 6, MOST, LEAST}) {
            Check.due("swap " + bad, x.swap(bad, 0), false);
            Check.due("swap 0 " + bad, x.swap(0, bad), false);
            Check.due("swap both", x.swap(bad, bad), false);
        }
        for (int i = 0; i < 5; i++) {
            Check.due("the same", x.swap(i, i), false);
        }
        Check.samePicture("nothing by these", Check.picture(x), before);
        Check.due("first and last", x.swap(4, 0), true);
        Check.due("home of the first", x.family(0, 4), 4);
        Check.due("home of the last", x.family(4, 4), 0);
        Check.due("who are no neighbours", x.swap(1, 2), true);
    }

    /** "LEND (1 to 999): true; false: others, the same, it can't be." */
    private static void lendBounds() {
        WallLottery x = rich();
        Check.due("999", x.lend(0, 1, 999), true);
        Check.due("1000 of 1998", x.lend(1, 0, 1000), false);
        Check.due("999 of 1998", x.lend(1, 0, 999), true);
        Check.due("1", x.lend(1, 0, 1), true);
        Check.due("0", x.lend(1, 0, 0), false);
        Check.due("-1", x.lend(1, 0, -1), false);
        Check.due("the most int", x.lend(1, 0, MOST), false);
        Check.due("the least int", x.lend(1, 0, LEAST), false);
        Check.due("the same", x.lend(1, 1, 1), false);
        for (int bad : new int[] {-1, 3, 6, MOST, LEAST}) {
            Check.due("lend " + bad, x.lend(bad, 0, 1), false);
            Check.due("lend to " + bad, x.lend(0, bad, 1), false);
        }
        Check.due("three were lent", x.count(11), 3);
        Check.due("coins", x.family(0, 3), 1000);
        Check.due("owed by one", x.owes(1, 0), 999);
        Check.due("owed by the other", x.owes(0, 1), 1000);
    }

    private static WallLottery rich() {
        return Check.town(Check.houses(3) + Check.families(3, 999) + Check.walls("ab bc"));
    }

    /** "LEND: a FAMILY so many of its coins to a NEIGHBOUR, who owes it so much more." */
    private static void lendNeighbours() {
        WallLottery x = rich();
        Check.due("who is far", x.lend(0, 2, 1), false);
        Check.due("who is near", x.lend(1, 2, 1), true);
        x.swap(0, 1);
        Check.due("near by a swap", x.lend(0, 2, 1), true);
        Check.due("far by a swap", x.lend(1, 2, 1), false);
        Check.due("so much more", x.lend(0, 2, 5) && x.owes(2, 0) == 6, true);
        Check.due("a debt is no wall", Check.town(Check.TWO + "owes cc dd 5;").lend(0, 1, 1), false);
    }

    /** "so many of its coins": of a loan */
    private static void lendCoins() {
        String land = Check.houses(2) + Check.families(2, 5) + Check.walls("ab");
        Check.due("one too many", Check.town(land).lend(0, 1, 6), false);
        WallLottery x = Check.town(land);
        Check.due("all", x.lend(0, 1, 5), true);
        Check.due("none are left", x.family(0, 3), 0);
        Check.due("of none", x.lend(0, 1, 1), false);
        Check.due("of what was lent", x.lend(1, 0, 10), true);
        Check.due("both owe", x.owes(0, 1) * 100 + x.owes(1, 0), 1005);
        Check.due("coins of all", x.count(7), 10);
        Check.due("debts of all", x.count(8), 15);
    }

    /** "PAY (1 to 999): true; false: likewise." */
    private static void payBounds() {
        WallLottery x = rich();
        // fb gets 1998 coins of which it owes fa 1500, for fc lends fa enough in between
        x.lend(0, 1, 999);
        x.lend(2, 1, 999);
        x.swap(0, 1);
        x.swap(1, 2);
        Check.due("fa lives beside fc", x.lend(1, 0, 999) && x.lend(0, 1, 501), true);
        Check.due("owes 1500", x.owes(1, 0), 1500);
        Check.due("1000", x.pay(1, 0, 1000), false);
        Check.due("999", x.pay(1, 0, 999), true);
        Check.due("0", x.pay(1, 0, 0), false);
        Check.due("-1", x.pay(1, 0, -1), false);
        Check.due("1", x.pay(1, 0, 1), true);
        Check.due("the most int", x.pay(1, 0, MOST), false);
        Check.due("the least int", x.pay(1, 0, LEAST), false);
        Check.due("the same", x.pay(1, 1, 1), false);
        for (int bad : new int[] {-1, 3, 6, MOST, LEAST}) {
            Check.due("pay " + bad, x.pay(bad, 0, 1), false);
            Check.due("pay to " + bad, x.pay(1, bad, 1), false);
        }
        Check.due("owes 500", x.owes(1, 0), 500);
        Check.due("coins of all", x.count(7), 2997);
    }

    /** "so many of its coins": of a payment */
    private static void payCoins() {
        String land = Check.houses(2) + Check.families(2, 5) + "owes fa fb 9;";
        Check.due("one too many", Check.town(land).pay(0, 1, 6), false);
        WallLottery x = Check.town(land);
        Check.due("all, to one who is far", x.pay(0, 1, 5), true);
        Check.due("owed still", x.owes(0, 1), 4);
        Check.due("of none", x.pay(0, 1, 1), false);
        Check.due("the other has them", x.family(1, 3), 10);
    }

    /** "to one to whom it owes no less; it owes so much less" */
    private static void payDebts() {
        String land = Check.houses(2) + Check.families(2, 50) + Check.walls("ab") + "owes fa fb 9;";
        Check.due("one too many", Check.town(land).pay(0, 1, 10), false);
        WallLottery x = Check.town(land);
        Check.due("one less", x.pay(0, 1, 8), true);
        Check.due("owes 1", x.owes(0, 1), 1);
        Check.due("the last one", x.pay(0, 1, 1), true);
        Check.due("of nothing", x.pay(0, 1, 1), false);
        Check.due("what is owed the other way is of no matter", Check.town(land).pay(1, 0, 1), false);
    }

    /** "UNDO: true; false: nothing can be." */
    private static void undoNothing() {
        WallLottery x = Check.town(Check.ROW);
        String before = Check.picture(x);
        Check.due("nothing yet", x.undo(), false);
        Check.samePicture("and nothing changes", Check.picture(x), before);
        x.tale(0, 1, true);
        x.mark(0, false);
        Check.days(x, "swap ann bob;");
        Check.due("tales, marks and days are none of these", x.undo(), false);
        x.swap(0, 1);
        Check.due("one", x.undo(), true);
        Check.due("no more", x.undo(), false);
        Check.due("an undo can't be undone", x.count(11), 0);
    }

    /** "UNDO: these, the last 16, one by one." */
    private static void undoSixteen() {
        for (int done = 14; done <= 18; done++) {
            WallLottery x = Check.town(Check.houses(2) + Check.families(2, 99) + Check.walls("ab"));
            for (int i = 0; i < done; i++) {
                x.lend(0, 1, 1);
            }
            int can = Math.min(done, 16);
            Check.due("can be undone of " + done, x.count(11), can);
            for (int i = 1; i <= can; i++) {
                Check.due("undo " + i, x.undo(), true);
                Check.due("one by one", x.owes(1, 0), done - i);
                Check.due("as many less", x.count(11), can - i);
            }
            Check.due("no more of " + done, x.undo(), false);
            Check.due("it stays so", x.owes(1, 0), done - can);
        }
    }

    /** "the last 16": however often what is kept goes round */
    private static void undoRound() {
        WallLottery x = Check.town(Check.houses(2) + Check.families(2, 999) + Check.walls("ab"));
        List<Integer> kept = new ArrayList<>();
        int owed = 0;
        for (int step = 0; step < 90; step++) {
            // five done, two undone, ..: then all undone, then on
            if (step % 7 < 5 && step < 50 || step >= 75) {
                kept.add(owed);
                owed += 1 + step % 3;
                x.lend(0, 1, 1 + step % 3);
                if (kept.size() > 16) {
                    kept.remove(0);
                }
            } else {
                Check.due("undo in step " + step, x.undo(), !kept.isEmpty());
                owed = kept.isEmpty() ? owed : kept.remove(kept.size() - 1);
            }
            Check.due("owed in step " + step, x.owes(1, 0), owed);
            Check.due("can be undone in step " + step, x.count(11), kept.size());
        }
    }

    /** "UNDO: these": a draw, a swap, a loan, a payment, all that they have changed */
    private static void undoEach() {
        for (int act = 0; act < 4; act++) {
            WallLottery x = Check.town(Check.ROW);
            x.lend(0, 1, 2);
            String before = Check.picture(x);
            boolean done = act == 0 ? x.draw(77) == 7 : act == 1 ? x.swap(1, 2)
                : act == 2 ? x.lend(0, 1, 3) : x.pay(2, 0, 2);
            Check.due("act " + act, done, true);
            Check.due("it changes something", Check.picture(x).equals(before), false);
            Check.due("undo", x.undo(), true);
            Check.samePicture("as ahead of act " + act, Check.picture(x), before);
        }
        WallLottery y = Check.town(Check.ROW);
        Check.due("a draw and what has lapsed", y.draw(0) == 5 && y.count(5) == 1 && y.count(6) == 5, true);
        Check.due("undone", y.undo() && y.count(5) == 0 && y.count(6) == 0 && y.owes(0, 1) == 5, true);
        Check.due("paid", y.pay(0, 1, 5) && y.owes(0, 1) == 0 && y.family(1, 3) == 5, true);
        Check.due("undone", y.undo() && y.owes(0, 1) == 5 && y.family(1, 3) == 0 && y.family(0, 3) == 10, true);
    }

    /** "false: others, the same, it can't be": what is refused changes nothing and can't be undone */
    private static void refusedChangeNothing() {
        WallLottery x = Check.town(Check.ROW);
        x.swap(0, 1);
        String before = Check.picture(x);
        x.draw(-1);
        x.draw(10000);
        x.swap(1, 1);
        x.swap(0, 3);
        x.lend(1, 2, 1);
        x.lend(0, 1, 11);
        x.lend(0, 1, 0);
        x.pay(0, 1, 6);
        x.pay(0, 1, -1);
        x.tale(0, 0, true);
        x.tale(0, 3, true);
        x.mark(4, false);
        x.mark(0, true);
        x.centuries(10000, 1, 0);
        x.judged(3);
        x.mend(3);
        x.please(5);
        x.quiet(3);
        Check.none("rests", () -> x.rests(0, 3, 0));
        Check.samePicture("nothing has changed", Check.picture(x), before);
    }

    /** "what 0: the first line that can't be, 1: the first with a custom BROKEN (NONE: none), 2: ...; -2: others." */
    private static void judgedWhat() {
        WallLottery x = Check.town(Check.ROW);
        for (int bad : new int[] {-2, -1, 3, MOST, LEAST}) {
            Check.due("judged " + bad, x.judged(bad), -2);
        }
        Check.due("none can't be", x.judged(0), -1);
        Check.due("none is broken", x.judged(1), -1);
        Check.due("nothing lapsed", x.judged(2), 0);
    }

    /** "(NONE: none)": with no DAYS, even if a custom is broken now and from the begin */
    private static void judgedNothing() {
        WallLottery x = Check.town(Check.TWO + "beside cc dd;");
        Check.due("broken", x.broken(), 16);
        Check.due("no line, so none", x.judged(1), -1);
        Check.days(x, "draw 1;");
        Check.due("behind the first line", x.judged(1), 0);
        Check.days(x, "");
        Check.due("no line again", x.judged(1), -1);
    }

    /** "JUDGED: the DAYS from the begin" */
    private static void judgedFromTheBegin() {
        WallLottery x = Check.town(Check.ROW);
        Check.days(x, "pay ann bob 5;lend ann bob 5;draw 0;");
        x.pay(0, 1, 5);
        x.swap(0, 2);
        x.draw(9);
        String before = Check.picture(x);
        Check.due("all can be", x.judged(0), -1);
        Check.due("none is broken", x.judged(1), -1);
        Check.due("what lapsed by the days alone", x.judged(2), 5);
        Check.due("again the same", x.judged(2), 5);
        Check.samePicture("nothing is changed by it", Check.picture(x), before);
    }

    /** "the first line (from 0) that can't be (draws, swaps always can; others are left out)" */
    private static void judgedLeftOut() {
        WallLottery x = Check.town(Check.ROW);
        String[] lines = {"swap ann bob;draw 1;swap cid bob;", "lend ann bob 11;", "swap bob cid;lend ann bob 1;",
            "pay bob ann 1;pay cid bob 1;", "lend ann bob 10;lend ann bob 1;", "pay ann bob 5;pay ann bob 1;",
            "lend ann bob 11;pay bob ann 1;lend ann bob 10;pay bob ann 10;"};
        int[] due = {-1, 0, 1, 0, 1, 1, 0};
        for (int i = 0; i < lines.length; i++) {
            Check.days(x, lines[i]);
            Check.due(lines[i], x.judged(0), due[i]);
        }
        // were the first line not left out, bob would owe 11 + 4, and all of it would lapse
        Check.days(x, "lend ann bob 11;lend ann bob 4;draw 0;");
        Check.due("left out", x.judged(2), 5 + 4);
        // nor is any part of it lent
        Check.days(x, "lend ann bob 11;draw 0;");
        Check.due("left out whole", x.judged(2), 5);
    }

    /** "the first one behind which a custom is BROKEN" */
    private static void judgedBroken() {
        WallLottery x = Check.town(Check.ROW);
        Check.days(x, "lend ann bob 1;pay ann bob 1;swap ann cid;swap ann cid;swap ann bob;swap ann bob;");
        Check.due("ann beside cid", x.judged(1), 4);
        Check.days(x, "swap ann bob;swap ann bob;");
        Check.due("the first line", x.judged(1), 0);
        Check.days(x, "lend ann bob 1;swap ann cid;");
        Check.due("none", x.judged(1), -1);
        WallLottery y = Check.town(Check.houses(3) + Check.families(2, 1) + Check.walls("ab") + "apart fa fb;");
        Check.days(y, "lend fa fb 9;draw 0;swap fa fb;");
        Check.due("broken from the begin, so behind the first line", y.judged(1), 0);
        Check.due("though it can't be", y.judged(0), 0);
    }

    /** "how much has lapsed in all" */
    private static void judgedLapsed() {
        WallLottery x = Check.town(Check.houses(2) + Check.families(2, 9) + Check.walls("ab") + "owes fa fb 99;");
        Check.days(x, "draw 1;".repeat(24));
        Check.due("once", x.judged(2), 99);
        Check.days(x, "draw 1;lend fa fb 3;draw 2;lend fb fa 4;draw 3;draw 4;");
        Check.due("by all draws", x.judged(2), 99 + 3 + 4);
        x.draw(5);
        Check.due("not by hand", x.judged(2), 99 + 3 + 4);
        Check.days(x, "swap fa fb;pay fa fb 9;");
        Check.due("no draw", x.judged(2), 0);
        Check.due("by hand it has", x.count(6), 99);
    }
}
