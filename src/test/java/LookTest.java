/** Promises 5 to 9 and 16: house, wall, family, joy, owes, broken, and what the laws say. */
public final class LookTest {
    public static void main(String[] args) {
        row();
        outside();
        expressions();
        longOnes();
        facts();
        limits();
        customs();
        Check.end();
    }

    private static void row() {
        WallLottery x = Check.town(Check.ROW);
        int[] families = {0, 1, 2, -1};
        for (int house = 0; house < 4; house++) {
            Check.due("house " + house, x.house(house), families[house]);
        }
        int[][] walls = {{-1, 2, -1, -1}, {2, -1, 5, -1}, {-1, 5, -1, 1}, {-1, -1, 1, -1}};
        for (int one = 0; one < 4; one++) {
            for (int other = 0; other < 4; other++) {
                Check.due("wall " + one + " " + other, x.wall(one, other), walls[one][other]);
            }
        }
        // ann feels 10 + 3 - 2 of bob; bob 4 + 1 - 2 of ann, and 2 + 1 - 5, which is 0, of cid; cid 10 + 0 - 5 of bob
        int[][] due = {{0, 4, 3, 10, 0, 2, 11, 0}, {1, 10, 1, 0, 1, 5, 3, 0}, {2, 2, 0, 7, 2, 2, 5, 0}};
        int[] joys = {6 - 11, -2 - 3, 1 - 5};
        for (int family = 0; family < 3; family++) {
            for (int what = 0; what < 8; what++) {
                Check.due("family " + family + " " + what, x.family(family, what), due[family][what]);
            }
            Check.due("joy " + family, x.joy(family), joys[family]);
        }
        int[][] owes = {{-1, 5, 0}, {0, -1, 0}, {3, 0, -1}};
        for (int one = 0; one < 3; one++) {
            for (int other = 0; other < 3; other++) {
                Check.due("owes " + one + " " + other, x.owes(one, other), owes[one][other]);
            }
        }
        WallLottery y = Check.town("house a;family l lawyer loud 3 ears 4 coins 5;");
        Check.due("lawyer", y.family(0, 0), 3);
        Check.due("lawyer's loudness", y.family(0, 1), 3);
        Check.due("lawyer's hearing", y.family(0, 2), 4);
        Check.due("content alone", y.family(0, 7), 1);
        Check.due("joy alone", y.joy(0), 0);
    }

    private static void outside() {
        WallLottery x = Check.town(Check.ROW);
        for (int bad : new int[] {-1, 3, 4, 5, 6, 7, Integer.MAX_VALUE, Integer.MIN_VALUE}) {
            Check.due("house " + bad, x.house(bad), -1);
            Check.due("family " + bad, x.family(bad, 0), -1);
            Check.due("owes " + bad, x.owes(bad, 0), -1);
            Check.due("owes 0 " + bad, x.owes(0, bad), -1);
            Check.none("joy " + bad, () -> x.joy(bad));
        }
        for (int bad : new int[] {-1, 4, 6, 36, Integer.MAX_VALUE, Integer.MIN_VALUE}) {
            Check.due("wall " + bad, x.wall(bad, 1), -1);
            Check.due("wall 1 " + bad, x.wall(1, bad), -1);
        }
        for (int bad : new int[] {-1, 8, Integer.MAX_VALUE, Integer.MIN_VALUE}) {
            Check.due("what " + bad, x.family(0, bad), -1);
        }
    }

    private static void law(String text, int due) {
        WallLottery x = Check.town("house a;family f plain loud 0 ears 0 coins 0;joy " + text + ";");
        Check.due("joy " + text, x.joy(0), due);
        Check.due("content by " + text, x.family(0, 7), due >= 0 ? 1 : 0);
    }

    private static void expressions() {
        law("7", 7);
        law("0007", 7);
        law("2 + 3 * 4", 14);
        law("2 * 3 + 4", 10);
        law("10 - 2 - 3", 5);
        law("10 - 2 + 3", 11);
        law("1 - 2 * 3", -5);
        law("(1 - 2) * 3", -3);
        law("not 5", 0);
        law("not 0 + 1", 2);
        law("not 0 * 5", 5);
        law("not not 7", 1);
        law("not (1 - 1)", 1);
        law("1 or 1 and 0", 0);
        law("0 and 0 or 1", 1);
        law("1 or (1 and 0)", 1);
        law("2 and 3", 1);
        law("2 and 0", 0);
        law("0 or 5", 1);
        law("0 or 0", 0);
        law("(0 - 1) and 1", 1);
        law("1 < 2", 1);
        law("2 < 2", 0);
        law("2 = 2", 1);
        law("2 = 3", 0);
        law("1 + 1 = 2 and 3 < 2 + 2", 1);
        law("(3 < 2) < 1", 1);
        law("0 - 1 < 0", 1);
        law("256 * 256 * 256 * 256", 0);
        law("256 * 256 * 256 * 256 + 3", 3);
        law("256 * 256 * 256 * 128", -999);
        law("256 * 256 * 256 * 128 - 1", 999);
        law("256 * 256 * 256 * 128 < 0", 1);
        law("999", 999);
        law("1000", 999);
        law("0 - 999", -999);
        law("0 - 1000", -999);
        law("9999*0+12", 12);
        law("fond + felt + near", 0);
        law("((((5))))", 5);
        law("1 + (1 * (1 and (2 * (3 < 4))))", 2);
    }

    private static void longOnes() {
        // as much is waiting at once as ever can: four operands at each of five depths
        law("0 or 0 < 1 + 1 * (0 or 0 < 1 + 1 * (0 or 0 < 1 + 1 * (0 or 0 < 1 + 1 * (0 or 9 < 8 + 2 * 1))))", 1);
        law("1 and 2 < 1 + 1 * (0 - 3 + 1 * (2 - 2 + 3 * (0 + 2 * (0 or 9 < 8 + 2 * 1))))", 1);
        law("not (1 + not (0 or 0 < 1 - 1 * fond))", 0);
        law("not not not not fond", 0);
        String head = "house a;family f plain loud 0 ears 0 coins 0;joy 0";
        StringBuilder text = new StringBuilder(head);
        int ones = (1000 - head.length() - 1) / 2;
        for (int i = 0; i < ones; i++) {
            text.append("+1");
        }
        text.append(";");
        Check.due("as long as the tape", Check.town(text.toString()).joy(0), ones);
    }

    private static void facts() {
        // one lives between two, who like and hate it in their own ways
        String land = "house a;house b;house c;wall a b 4;wall c b 7;family f plain loud 2 ears 3 coins 0;"
            + "family g fiddler loud 4 ears 5 coins 0;family h sleeper loud 6 ears 9 coins 0;"
            + "like g f 5;hate g f 2;hate g h 7;like f h 9;like h g 1;";
        WallLottery near = Check.town(land + "joy near;noise loudness;");
        Check.due("near 0", near.joy(0), 1);
        Check.due("near 1", near.joy(1), 2);
        Check.due("loudness of a fiddler", near.family(0, 6), 8);
        Check.due("loudness of both", near.family(1, 6), 8);
        WallLottery fond = Check.town(land + "joy fond;noise hearing;");
        Check.due("fond of no one who is far", fond.joy(0), 0);
        Check.due("fond", fond.joy(1), 5 - 2 - 7);
        Check.due("fond of one", fond.joy(2), 1);
        Check.due("hearing once a neighbour", fond.family(1, 6), 10);
        Check.due("a sleeper's hearing", fond.family(2, 6), 0);
        WallLottery felt = Check.town(land + "joy felt;noise brick;");
        Check.due("brick", felt.joy(0), 4);
        Check.due("bricks", felt.joy(1), 11);
        felt.swap(0, 2);
        Check.due("brick elsewhere", felt.joy(0), 7);
    }

    private static void limits() {
        String land = "house a;house b;house c;wall a b 4;wall c b 7;family f plain loud 2 ears 3 coins 0;"
            + "family g plain loud 4 ears 5 coins 0;family h plain loud 6 ears 9 coins 0;joy felt;";
        WallLottery most = Check.town(land + "noise 100;");
        Check.due("99 of each", most.joy(0), 99);
        Check.due("99 of both", most.family(1, 6), 198);
        WallLottery least = Check.town(land + "noise 5 - brick;");
        Check.due("no less than 0 of each", least.family(1, 6), 1);
        Check.due("none", least.family(2, 6), 0);
    }

    private static void customs() {
        String land = "house a;house b;house c;house d;wall a b 1;wall b c 1;family f plain loud 0 ears 0 coins 0;"
            + "family g plain loud 0 ears 0 coins 0;family h plain loud 0 ears 0 coins 0;"
            + "apart f g;apart f h;apart h g;apart g f;beside f g;beside h f;beside h g;beside f h;";
        WallLottery x = Check.town(land);
        Check.due("broken", x.broken(), 0b1010_1101);
        x.swap(0, 1);
        Check.due("broken behind a swap", x.broken(), 0b0100_1011);
        Check.due("no customs", Check.town(Check.TWO).broken(), 0);
    }
}
