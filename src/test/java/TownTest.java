/** Promise 3: town, with every FAULT. In a text here @ stands ahead of the token that is wrong. */
public final class TownTest {
    private static final String SIX = "house a;house b;house c;house d;house e;house f;";
    private static final String[] RESERVED = {"house", "wall", "family", "loud", "ears", "coins", "like", "hate",
        "owes", "apart", "beside", "noise", "joy", "hedge", "draw", "swap", "lend", "pay", "plain", "fiddler",
        "sleeper", "lawyer", "not", "and", "or"};
    private static final String[] FACTS = {"loudness", "hearing", "brick", "fond", "felt", "near", "mine", "his"};

    public static void main(String[] args) {
        right();
        tokens();
        names();
        houses();
        walls();
        families();
        ofTwo();
        customs();
        laws();
        depth();
        leastKind();
        allStays();
        allAnew();
        manyTowns();
        Check.end();
    }

    private static void fault(int kind, String marked) {
        Check.townFault(kind, marked);
    }

    private static void two(int kind, String marked) {
        fault(kind, Check.TWO + marked);
    }

    private static void right() {
        Check.town("");
        Check.town(" \n ");
        Check.town("house a;house\nb;wall a b 9;family c lawyer loud 9ears 9coins 999;");
        Check.town("house abcdefgh;");
        Check.town("house a;family b plain loud 0009 ears 0000 coins 0999;");
        Check.town(Check.TWO + "like cc dd 9;like dd cc 1;hate cc dd 1;hate dd cc 9;owes cc dd 99;owes dd cc 1;");
        Check.town(Check.TWO + "apart cc dd;apart cc dd;apart dd cc;apart cc dd;"
            + "beside cc dd;beside cc dd;beside dd cc;beside cc dd;");
        Check.town(Check.TWO + "noise 1;joy 1;hedge 1;");
        Check.town(SIX + "family g plain loud 1 ears 1 coins 1;");
    }

    private static void tokens() {
        fault(1, "@A");
        fault(1, "@?");
        fault(1, "house @Aa;");
        fault(1, "house a@:");
        fault(1, "house @abcdefghi;");
        fault(1, "house @abcdefghijklmnopqrstuvwxyz;");
        fault(1, "house a@1;");
        fault(1, "house a @_;");
        fault(1, "@12345");
        two(1, "wall aa bb @00001;");
        two(1, "wall aa bb @99999999999999;");
        two(1, "wall aa bb 1@x;");
        two(1, "joy 1@.5;");
        two(1, "joy 1 @> 2;");
        two(1, "joy @{1};");
    }

    private static void names() {
        for (String word : RESERVED) {
            fault(1, "house @" + word + ";");
            fault(1, "house a;family @" + word + " plain");
            two(1, "wall @" + word);
            two(1, "like cc @" + word);
        }
        for (String word : FACTS) {
            WallLottery x = Check.town("house " + word + ";house q;wall q " + word + " 3;");
            Check.due("a fact may be a NAME: " + word, x.wall(0, 1), 3);
        }
    }

    private static void houses() {
        fault(1, "house @");
        fault(1, "house @;");
        fault(1, "house @7;");
        fault(1, "house a@");
        fault(1, "house a  @");
        fault(1, "house a @b;");
        fault(1, "house a;@;");
        fault(3, "house a;house @a;");
        fault(3, Check.TWO + "house @dd;");
        fault(5, SIX + "@house");
        fault(5, SIX + "@house g;");
    }

    private static void walls() {
        two(1, "wall @1");
        two(1, "wall aa@");
        two(1, "wall aa bb@;");
        two(1, "wall aa bb 1@");
        two(1, "wall aa bb 1 @2;");
        two(2, "wall @xx");
        two(2, "wall @cc bb 1;");
        two(2, "wall aa @xx 1;");
        two(3, "wall aa @aa 1;");
        two(3, "wall aa bb 1;wall aa @bb 1;");
        two(3, "wall aa bb 1;wall bb @aa 1;");
        two(4, "wall aa bb @0;");
        two(4, "wall aa bb @10;");
        two(4, "wall aa bb @9999;");
    }

    private static void families() {
        fault(5, "@family");
        fault(5, "house a;family b plain loud 1 ears 1 coins 1;@family c plain");
        fault(3, "house a;family @a");
        fault(3, "house a;house b;family c plain loud 1 ears 1 coins 1;family @c");
        fault(1, "house a;family @1");
        fault(1, "house a;family b@;");
        fault(1, "house a;family b @fat");
        fault(1, "house a;family b @loud 1");
        fault(1, "house a;family b plain @ears");
        fault(1, "house a;family b plain loud @ears");
        fault(1, "house a;family b plain loud 1 @coins");
        fault(1, "house a;family b plain loud 1 ears 1 @loud");
        fault(1, "house a;family b plain loud 1 ears 1 coins @;");
        fault(1, "house a;family b plain loud 1 ears 1 coins 1@");
        fault(4, "house a;family b plain loud @10");
        fault(4, "house a;family b plain loud 9 ears @10");
        fault(4, "house a;family b plain loud 9 ears 9 coins @1000");
        Check.due("a family needs a house ahead of it", Check.town(
            "house a;family c plain loud 1 ears 1 coins 1;house b;family d plain loud 1 ears 1 coins 1;").count(1), 2);
    }

    private static void ofTwo() {
        for (String word : new String[] {"like ", "hate ", "owes "}) {
            String most = word.equals("owes ") ? "100" : "10";
            two(1, word + "@;");
            two(1, word + "cc@;");
            two(1, word + "cc dd@;");
            two(1, word + "cc dd 1@");
            two(2, word + "@aa");
            two(2, word + "@xx dd 1;");
            two(2, word + "cc @bb 1;");
            two(3, word + "cc @cc 1;");
            two(3, word + "cc dd 1;" + word + "cc @dd 1;");
            two(3, word + "cc dd 1;" + word + "dd cc 1;" + word + "dd @cc 1;");
            two(4, word + "cc dd @0;");
            two(4, word + "cc dd @" + most + ";");
        }
    }

    private static void customs() {
        for (String word : new String[] {"apart ", "beside "}) {
            two(1, word + "@;");
            two(1, word + "cc@;");
            two(1, word + "cc dd @1;");
            two(2, word + "@aa dd;");
            two(2, word + "cc @bb;");
            two(3, word + "cc @cc;");
            String four = (word + "cc dd;").repeat(4);
            two(5, four + "@" + word);
            two(1, four + "@x");
        }
        Check.town(Check.TWO + "apart cc dd;".repeat(4) + "beside cc dd;".repeat(4));
    }

    private static void laws() {
        for (String word : new String[] {"noise ", "joy ", "hedge "}) {
            two(1, word + "@;");
            two(1, word + "1@");
            two(1, word + "1 @1;");
            two(1, word + "1 @not 1;");
            two(1, word + "@+ 1;");
            two(1, word + "1 + @;");
            two(1, word + "1 * @* 1;");
            two(1, word + "1 and @and 1;");
            two(1, word + "(1@;");
            two(1, word + "(@);");
            two(1, word + "1@);");
            two(1, word + "not@;");
            two(1, word + "1 < 2 @< 3;");
            two(1, word + "1 = 2 @< 3;");
            two(1, word + "@xx;");
            two(1, word + "@cc;");
            two(1, word + "@plain;");
            two(3, word + "1;@" + word);
            two(1, word + "1;@" + word.charAt(0));
            Check.town(Check.TWO + word + "(1 < 2) < 3 and not (1 = 2) or 9999 - 1 * 0;");
        }
        String[][] foreign = {{"noise ", "fond felt near mine his"}, {"joy ", "loudness hearing brick mine his"},
            {"hedge ", "loudness hearing brick felt near"}};
        for (String[] law : foreign) {
            for (String fact : law[1].split(" ")) {
                two(1, law[0] + "@" + fact);
            }
        }
        Check.town(Check.TWO + "noise loudness*hearing*brick;joy fond*felt*near;hedge mine*his*fond;");
    }

    private static void depth() {
        Check.town(Check.TWO + "joy not not not not 1;hedge ((((1))));noise not(not(1));");
        two(5, "joy not not not not not @1;");
        two(5, "joy not not not not not @not 1;");
        two(5, "joy (((((@1)))));");
        two(5, "joy (((((@(1))))));");
        two(5, "joy not (not (not @fond));");
        two(5, "joy 1 + (not (not (@1 + 2 * fond)));");
        two(5, "joy 1 and (1 < (1 + (1 * (1 = (@1)))));");
    }

    private static void leastKind() {
        two(1, "joy not not not not not @mine;");
        two(1, "joy (((((@);");
        two(1, "joy not not not not not@");
        fault(1, SIX + "@houses");
        fault(1, SIX + "@draw 1;");
    }

    private static void allStays() {
        WallLottery x = Check.town(Check.ROW);
        Check.days(x, "draw 1; swap ann bob;");
        x.swap(0, 2);
        x.tale(0, 1, true);
        x.mark(2, false);
        Check.feed(x, "house a;house b;house @");
        Check.due("fault", x.town(), 1 + 16 * 22);
        Check.due("houses stay", x.count(0), 4);
        Check.due("days stay", x.count(9), 2);
        Check.due("tales stay", x.count(10), 1);
        Check.due("undo stays", x.count(11), 1);
        Check.due("who lives where stays", x.family(0, 4), 2);
        Check.due("marks stay", x.mark(2, true), true);
    }

    private static void allAnew() {
        WallLottery x = Check.town(Check.ROW);
        Check.days(x, "draw 1;");
        x.draw(3);
        x.lend(0, 1, 1);
        x.tale(0, 1, true);
        x.tale(0, 1, false);
        x.mark(0, false);
        x.mark(2, false);
        Check.feed(x, Check.TWO + "owes dd cc 7;");
        Check.due("town", x.town(), 0);
        int[] due = {2, 2, 0, 0, 0, 0, 0, 2, 7, 0, 0, 0, 0};
        for (int what = 0; what < due.length; what++) {
            Check.due("anew: count " + what, x.count(what), due[what]);
        }
        Check.due("anew: no mark", x.mark(0, true) || x.mark(2, true), false);
        Check.due("anew: nothing to undo", x.undo(), false);
        Check.due("anew: first house", x.family(0, 4), 0);
        Check.due("anew: second house", x.family(1, 4), 1);
        Check.due("anew: ways", x.how(), 2);
        Check.feed(x, "");
        Check.due("an empty town", x.town(), 0);
        Check.due("no houses", x.count(0), 0);
        Check.due("one way", x.how(), 1);
    }

    private static void manyTowns() {
        // nothing of a law is left behind for the next town's, however many there are
        WallLottery x = new WallLottery();
        for (int i = 0; i < 40; i++) {
            Check.feed(x, "house a;family f plain loud 0 ears 0 coins 0;joy " + i + " + 0".repeat(24) + ";");
            Check.due("town " + i, x.town(), 0);
            Check.due("joy " + i, x.joy(0), i);
            Check.due("hope " + i, x.hope(0), 1000 * i);
        }
        Check.feed(x, "house a;house b;wall a b 1;family f plain loud 0 ears 0 coins 0;");
        Check.due("the last one", x.town(), 0);
        Check.due("its law is the untold one", x.joy(0), 0);
        Check.due("hope by it", x.hope(0), 0);
        Check.due("its walls", x.count(2), 1);
    }
}
