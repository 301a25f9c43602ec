/** Promises 20 to 23: mend, please, quiet, rests. */
public final class WaysTest {
    private static final int[] WRONG = {-2, 6, 7, Integer.MAX_VALUE, Integer.MIN_VALUE};

    public static void main(String[] args) {
        mend();
        rings();
        please();
        quiet();
        rests();
        Check.end();
    }

    private static String families(int many) {
        StringBuilder text = new StringBuilder();
        for (int i = 0; i < many; i++) {
            text.append("family f").append((char) ('a' + i)).append(" plain loud 0 ears 0 coins 0;");
        }
        return text.toString();
    }

    private static void mended(String what, WallLottery x, int swaps, int... homes) {
        Check.due(what + ": swaps", x.mend(-1), swaps);
        for (int family = 0; family < homes.length; family++) {
            Check.due(what + ": home of " + family, x.mend(family), homes[family]);
        }
        Check.due(what + ": no such family", x.mend(homes.length), -2);
    }

    private static void mend() {
        WallLottery x = Check.town(Check.ROW);
        mended("as it is", x, 0, 0, 1, 2);
        for (int bad : WRONG) {
            Check.due("mend " + bad, x.mend(bad), -2);
        }
        x.swap(0, 1);
        mended("one swap back", x, 1, 0, 1, 2);
        x.swap(1, 2);
        // bob in c, ann in b, cid in a: cid to d would be beside bob, not ann: one step to the empty house
        mended("to an empty house", x, 1, 1, 2, 3);
        Check.due("nothing is changed", x.family(2, 4), 0);
        Check.due("nothing to undo of it", x.count(11), 2);

        WallLottery none = Check.town(Check.TWO + "beside cc dd;");
        Check.due("none does", none.mend(-1), -2);
        Check.due("none does: a family", none.mend(0), -2);
        mended("no families", Check.town("house a;"), 0);
    }

    private static void rings() {
        // a wall from a to b alone: they who must be side by side live in c and d, and go there one by one
        String land = "house a;house b;house c;house d;wall a b 1;" + families(4) + "beside fc fd;";
        mended("two rings of two", Check.town(land), 2, 2, 3, 0, 1);
        WallLottery x = Check.town("house a;house b;house c;" + families(3) + "joy 1;wall a b 1;beside fa fb;");
        mended("as it is", x, 0, 0, 1, 2);
        x.swap(0, 1);
        x.swap(1, 2);
        mended("two of three change back", x, 1, 1, 0, 2);
    }

    private static void pleased(String what, WallLottery x, int content, int swaps, int... homes) {
        Check.due(what + ": content", x.please(0), content);
        Check.due(what + ": swaps", x.please(1), swaps);
        for (int family = 0; family < homes.length; family++) {
            Check.due(what + ": home of " + family, x.please(2 + family), homes[family]);
        }
        Check.due(what + ": no such family", x.please(2 + homes.length), -1);
    }

    private static void please() {
        WallLottery x = Check.town(Check.ROW);
        pleased("row", x, 1, 1, 0, 1, 3);
        for (int bad : new int[] {-1, -2, 8, Integer.MAX_VALUE, Integer.MIN_VALUE}) {
            Check.due("please " + bad, x.please(bad), -1);
        }
        pleased("all are, as it is", Check.town(Check.TWO), 2, 0, 0, 1);
        pleased("no families", Check.town("house a;"), 0, 0);
        // g is content only beside nobody, f always: of the ways to part them in one step the first row
        WallLottery y = Check.town("house a;house b;house c;wall a b 1;" + families(2) + "hate fb fa 1;");
        pleased("one goes", y, 2, 1, 0, 2);
        y.swap(0, 1);
        pleased("one goes from elsewhere", y, 2, 1, 1, 2);
        // the bricks around a, b, c are 5, 3, 6: each is content in one house alone, and they stand in a ring of three
        WallLottery ring = Check.town("house a;house b;house c;wall a b 1;wall b c 2;wall a c 4;" + families(3)
            + "noise brick;joy (fond = felt) - 1;like fa fb 3;like fa fc 2;like fb fa 1;like fb fc 2;"
            + "like fc fa 3;like fc fb 3;");
        pleased("all at home", ring, 3, 0, 0, 1, 2);
        ring.swap(0, 1);
        ring.swap(1, 2);
        pleased("a ring of three", ring, 3, 2, 0, 1, 2);
        WallLottery z = Check.town("house a;house b;wall a b 1;" + families(2) + "joy 0 - 1;");
        z.swap(0, 1);
        pleased("nobody ever: it stays", z, 0, 0, 1, 0);
    }

    private static void quiet() {
        WallLottery x = Check.town(Check.ROW);
        int[] due = {0, 3, 1};
        Check.due("felt", x.quiet(-1), 5);
        for (int family = 0; family < 3; family++) {
            Check.due("quiet " + family, x.quiet(family), due[family]);
        }
        Check.due("no such family", x.quiet(3), -2);
        for (int bad : WRONG) {
            Check.due("quiet " + bad, x.quiet(bad), -2);
        }
        x.draw(9);
        Check.due("wherever they live", x.quiet(1), 3);
        Check.due("no families", Check.town("house a;").quiet(-1), 0);
        Check.due("no families: a family", Check.town("house a;").quiet(0), -2);
        WallLottery same = Check.town(Check.TWO + "wall aa bb 1;noise 7;");
        Check.due("both feel it", same.quiet(-1), 14);
        Check.due("the first row", same.quiet(1), 1);
    }

    private static void rested(String law, int... choices) {
        WallLottery x = Check.town(Check.TWO + "wall aa bb 1;like cc dd 3;hate dd cc 2;" + law);
        Check.due(law + ": how many", x.rests(0, 1, -1), choices.length);
        for (int i = 0; i < choices.length; i++) {
            Check.due(law + ": rest " + i, x.rests(0, 1, i), choices[i]);
        }
        Check.none(law + ": none such", () -> x.rests(0, 1, choices.length));
        // told of the other one first, the two choices change places
        for (int i = 0; i < choices.length; i++) {
            int turned = 2 * (choices[i] % 2) + choices[i] / 2;
            boolean found = false;
            for (int j = 0; j < choices.length; j++) {
                found |= x.rests(1, 0, j) == turned;
            }
            Check.due(law + ": turned " + choices[i], found, true);
        }
    }

    private static void rests() {
        rested("", 0);
        rested("hedge mine;", 3);
        rested("hedge 5;", 0, 1, 2, 3);
        rested("hedge mine = his;", 0, 3);
        rested("hedge mine + his = 1;", 1, 2);
        // cc likes dd and would cut, dd hates cc and would keep
        rested("hedge mine * fond;", 2);
        rested("hedge (mine = his) * (0 < fond) + (mine + his = 1) * (fond < 0);");
        // beyond the bounds all is the same
        rested("hedge 99 + mine;", 0, 1, 2, 3);
        rested("hedge 98 + mine;", 3);
        rested("hedge mine - 100;", 0, 1, 2, 3);
        rested("hedge mine - 99;", 3);

        WallLottery x = Check.town(Check.ROW);
        Check.none("no neighbours", () -> x.rests(0, 2, -1));
        Check.none("the same", () -> x.rests(1, 1, -1));
        Check.none("what -2", () -> x.rests(0, 1, -2));
        Check.none("what 4", () -> x.rests(0, 1, 4));
        for (int bad : new int[] {-1, 3, 6, Integer.MAX_VALUE, Integer.MIN_VALUE}) {
            Check.none("rests " + bad, () -> x.rests(bad, 0, -1));
            Check.none("rests 0 " + bad, () -> x.rests(0, bad, -1));
        }
        for (int bad : new int[] {Integer.MAX_VALUE, Integer.MIN_VALUE}) {
            Check.none("what " + bad, () -> x.rests(0, 1, bad));
        }
    }
}
