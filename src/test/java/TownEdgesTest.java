/** The edges of a TOWN's text: a test for each sentence of the document that names one, under its words. */
public final class TownEdgesTest {
    private static final String[] RESERVED = {"house", "wall", "family", "loud", "ears", "coins", "like", "hate",
        "owes", "apart", "beside", "noise", "joy", "hedge", "draw", "swap", "lend", "pay", "plain", "fiddler",
        "sleeper", "lawyer", "not", "and", "or"};
    private static final String ONE = "house a;family f plain loud 0 ears 0 coins 0;";

    public static void main(String[] args) {
        anyNumber();
        sixHouses();
        housesToldAhead();
        wallPairs();
        wallThickness();
        familiesAndHouses();
        kinds();
        traits();
        likings();
        likingNumbers();
        debts();
        debtNumbers();
        customsOfTwo();
        fourCustoms();
        lawsOnce();
        namesAndWords();
        factsAsNames();
        namesAlike();
        amongSix();
        exprBegins();
        exprGoesOn();
        oneComparison();
        factsOfLaws();
        fourDeep();
        fiveDeep();
        depthEnds();
        place();
        theEnd();
        firstFromTheLeft();
        leastKind();
        everyLineEnds();
        Check.end();
    }

    private static void two(int kind, String marked) {
        Check.townFault(kind, Check.TWO + marked);
    }

    /** "TOWN: any number of": none, and in any order that names allow */
    private static void anyNumber() {
        Check.due("none", Check.town("").count(0), 0);
        WallLottery x = Check.town("joy 1;hedge 2;noise 3;house b;family g plain loud 1 ears 1 coins 1;house a;"
            + "wall a b 5;family f plain loud 2 ears 2 coins 2;owes f g 3;house c;wall c b 6;");
        Check.due("houses", x.count(0), 3);
        Check.due("families", x.count(1), 2);
        Check.due("a wall told late", x.wall(2, 0), 6);
        Check.due("an early law", x.joy(0), 1);
    }

    /** "house: 6 at most, numbered as told.", "the words house of a seventh" */
    private static void sixHouses() {
        WallLottery x = Check.town("house f;house e;house d;house c;house b;house a;wall a f 7;wall e b 8;");
        Check.due("six", x.count(0), 6);
        Check.due("numbered as told", x.wall(0, 5), 7);
        Check.due("numbered as told, too", x.wall(1, 4), 8);
        Check.townFault(5, Check.houses(6) + "@house");
        Check.townFault(5, Check.houses(6) + "@house g;");
        Check.townFault(5, Check.houses(6) + "@house a;");
        Check.townFault(5, Check.houses(6) + "@house house;");
        Check.due("five are not too many", Check.town(Check.houses(5)).count(0), 5);
    }

    /** "wall: two HOUSES told": ahead of it, not behind it */
    private static void housesToldAhead() {
        Check.townFault(2, "wall @a b 1;house a;house b;");
        Check.townFault(2, "house a;wall a @b 1;house b;");
        Check.townFault(2, "house a;wall @b a 1;house b;");
        two(2, "wall @cc aa 1;");
        two(2, "wall aa @dd 1;");
    }

    /** "not the same, each pair once" */
    private static void wallPairs() {
        StringBuilder all = new StringBuilder(Check.houses(6));
        for (int i = 0; i < 6; i++) {
            for (int j = i + 1; j < 6; j++) {
                char one = (char) ('a' + i);
                char other = (char) ('a' + j);
                all.append("wall ").append(one).append(' ').append(other).append(' ').append(1 + (i + j) % 9).append(';');
                Check.townFault(3, all + "wall " + one + " @" + other + " 1;");
                Check.townFault(3, all + "wall " + other + " @" + one + " 1;");
            }
            Check.townFault(3, all + "wall " + (char) ('a' + i) + " @" + (char) ('a' + i) + " 1;");
        }
        WallLottery x = Check.town(all.toString());
        Check.due("all fifteen", x.count(2), 15);
        for (int i = 0; i < 6; i++) {
            for (int j = 0; j < 6; j++) {
                Check.due("wall " + i + " " + j, x.wall(i, j), i == j ? -1 : 1 + (i + j) % 9);
            }
        }
    }

    /** "1 to 9 thick" */
    private static void wallThickness() {
        Check.due("1", Check.town(Check.houses(2) + "wall a b 1;").wall(0, 1), 1);
        Check.due("9", Check.town(Check.houses(2) + "wall a b 9;").wall(0, 1), 9);
        Check.due("0001", Check.town(Check.houses(2) + "wall a b 0001;").wall(0, 1), 1);
        Check.townFault(4, Check.houses(2) + "wall a b @0;");
        Check.townFault(4, Check.houses(2) + "wall a b @10;");
        Check.townFault(4, Check.houses(2) + "wall a b @0000;");
        Check.townFault(1, Check.houses(2) + "wall a b @-1;");
    }

    /** "family: as many at most as there are HOUSES told ahead of it; numbered as told" */
    private static void familiesAndHouses() {
        String family = " plain loud 0 ears 0 coins ";
        Check.townFault(5, "@family f" + family + "1;house a;");
        Check.townFault(5, "house a;family f" + family + "1;@family g" + family + "1;house b;");
        for (int many = 1; many <= 6; many++) {
            String land = Check.houses(many) + Check.families(many, 3);
            Check.due("as many", Check.town(land).count(1), many);
            Check.townFault(5, land + "@family");
            Check.townFault(5, land + "@family fa;");
        }
        WallLottery x = Check.town("house a;family z" + family + "1;house b;family y" + family + "2;house c;family x"
            + family + "3;");
        for (int i = 0; i < 3; i++) {
            Check.due("numbered as told", x.family(i, 3), i + 1);
            Check.due("the i-th house", x.family(i, 4), i);
        }
        Check.due("fewer than houses", Check.town(Check.houses(6) + Check.families(1, 0)).count(1), 1);
    }

    /** "KIND: plain, fiddler, sleeper, lawyer" */
    private static void kinds() {
        String[] kinds = {"plain", "fiddler", "sleeper", "lawyer"};
        for (int i = 0; i < 4; i++) {
            WallLottery x = Check.town("house a;family f " + kinds[i] + " loud 3 ears 4 coins 0;");
            Check.due(kinds[i], x.family(0, 0), i);
        }
        Check.townFault(1, "house a;family f @loud 3 ears 4 coins 0;");
        Check.townFault(1, "house a;family f @fiddle loud 3 ears 4 coins 0;");
        Check.townFault(1, "house a;family f @1 loud 3 ears 4 coins 0;");
        Check.townFault(1, "house a;family f plain @lawyer loud 3 ears 4 coins 0;");
    }

    /** "loud, ears 0 to 9, coins 0 to 999" */
    private static void traits() {
        WallLottery least = Check.town("house a;family f plain loud 0 ears 0 coins 0;");
        WallLottery most = Check.town("house a;family f plain loud 9 ears 9 coins 999;");
        int[] mosts = {9, 9, 999};
        for (int what = 1; what <= 3; what++) {
            Check.due("least " + what, least.family(0, what), 0);
            Check.due("most " + what, most.family(0, what), mosts[what - 1]);
        }
        Check.townFault(4, "house a;family f plain loud @10 ears 0 coins 0;");
        Check.townFault(4, "house a;family f plain loud 0 ears @10 coins 0;");
        Check.townFault(4, "house a;family f plain loud 0 ears 0 coins @1000;");
        Check.townFault(1, "house a;family f plain loud @-1");
        Check.townFault(1, "house a;family f plain @ears 0 loud 0 coins 0;");
    }

    /** "like, hate: a FAMILY told of another one, ... each so once of each two (like and hate of two may both be)" */
    private static void likings() {
        for (String word : new String[] {"like ", "hate "}) {
            String other = word.equals("like ") ? "hate " : "like ";
            two(3, word + "cc @cc 1;");
            two(3, word + "cc dd 1;" + word + "cc @dd 2;");
            two(3, word + "cc dd 1;" + other + "cc dd 1;" + word + "cc @dd 2;");
            two(2, word + "@aa cc 1;");
            two(2, word + "cc @aa 1;");
            Check.townFault(2, Check.houses(2) + Check.families(1, 0) + word + "fa @fb 1;" + Check.families(2, 0));
            Check.townFault(2, "house a;" + word + "@fa fb 1;");
        }
        WallLottery x = Check.town(Check.TWO + "wall aa bb 1;noise 0;like cc dd 9;hate cc dd 4;like dd cc 1;hate dd cc 2;");
        Check.due("both, of one", x.joy(0), 5);
        Check.due("both, of the other", x.joy(1), -1);
    }

    /** "1 to 9": of like, hate */
    private static void likingNumbers() {
        String land = Check.TWO + "wall aa bb 1;noise 0;";
        Check.due("like 1", Check.town(land + "like cc dd 1;").joy(0), 1);
        Check.due("like 9", Check.town(land + "like cc dd 9;").joy(0), 9);
        Check.due("hate 1", Check.town(land + "hate cc dd 1;").joy(0), -1);
        Check.due("hate 9", Check.town(land + "hate cc dd 9;").joy(0), -9);
        for (String word : new String[] {"like", "hate"}) {
            two(4, word + " cc dd @0;");
            two(4, word + " cc dd @10;");
        }
    }

    /** "owes: a FAMILY told to another one, ... each so once" */
    private static void debts() {
        two(3, "owes cc @cc 1;");
        two(3, "owes cc dd 1;owes cc @dd 1;");
        two(3, "owes cc dd 1;owes dd cc 1;owes dd @cc 1;");
        two(2, "owes @bb cc 1;");
        two(2, "owes cc @bb 1;");
        Check.townFault(2, Check.houses(2) + Check.families(1, 0) + "owes fa @fb 1;" + Check.families(2, 0));
        WallLottery x = Check.town(Check.TWO + "owes cc dd 3;owes dd cc 4;");
        Check.due("one", x.owes(0, 1), 3);
        Check.due("the other", x.owes(1, 0), 4);
    }

    /** "1 to 99": of owes */
    private static void debtNumbers() {
        Check.due("1", Check.town(Check.TWO + "owes cc dd 1;").owes(0, 1), 1);
        Check.due("99", Check.town(Check.TWO + "owes cc dd 99;").owes(0, 1), 99);
        two(4, "owes cc dd @0;");
        two(4, "owes cc dd @100;");
    }

    /** "apart, beside: two FAMILIES told, not the same" */
    private static void customsOfTwo() {
        for (String word : new String[] {"apart ", "beside "}) {
            two(3, word + "dd @dd;");
            two(2, word + "@aa dd;");
            two(2, word + "dd @aa;");
            two(1, word + "dd cc @1;");
            Check.townFault(2, Check.houses(2) + Check.families(1, 0) + word + "fa @fb;" + Check.families(2, 0));
        }
        WallLottery x = Check.town(Check.TWO + "apart cc dd;apart cc dd;beside dd cc;beside cc dd;");
        Check.due("the same ones may be told again", x.count(3) * 10 + x.count(4), 22);
    }

    /** "4 of each at most", "apart, beside of a fifth" */
    private static void fourCustoms() {
        String aparts = "apart cc dd;".repeat(4);
        String besides = "beside cc dd;".repeat(4);
        WallLottery x = Check.town(Check.TWO + aparts + besides);
        Check.due("four apart", x.count(3), 4);
        Check.due("four beside", x.count(4), 4);
        Check.due("all that are broken", x.broken(), 0xf0);
        two(5, aparts + besides + "@apart cc dd;");
        two(5, aparts + besides + "@beside cc dd;");
        two(5, aparts + "@apart");
        two(5, besides + "@beside");
        two(5, aparts + "@apart xx xx;");
        Check.due("the fourth apart counts", Check.town(Check.TWO + "wall aa bb 1;" + aparts).broken(), 0x0f);
    }

    /** "noise, joy, hedge: once each.", "noise, joy, hedge a second time" */
    private static void lawsOnce() {
        String all = "noise 1;joy 2;hedge 3;";
        Check.due("each once", Check.town(Check.TWO + all).joy(0), 2);
        for (String word : new String[] {"noise", "joy", "hedge"}) {
            two(3, all + "@" + word + " 1;");
            two(3, all + "@" + word);
            two(3, word + " 1;@" + word + " ;");
        }
    }

    /** "A NAME is another WORD than house, wall, family, loud, ears, coins, like, hate, owes, apart, beside, ..." */
    private static void namesAndWords() {
        for (String word : RESERVED) {
            Check.townFault(1, "house @" + word + ";");
            Check.townFault(1, "house a;family @" + word + " plain loud 0 ears 0 coins 0;");
            two(1, "wall aa @" + word + " 1;");
            two(1, "like @" + word + " dd 1;");
            two(1, "beside cc @" + word + ";");
            Check.daysFault(1, "swap cc @" + word + ";");
            String longer = word.length() < 8 ? word + "x" : word.substring(1);
            Check.due("another word", Check.town("house " + longer + ";").count(0), 1);
            Check.due("a shorter word", Check.town("house " + word.substring(1) + ";").count(0), 1);
        }
    }

    /** "A NAME is another WORD than house, wall, ...": the facts are not among these */
    private static void factsAsNames() {
        for (String fact : "loudness hearing brick fond felt near mine his".split(" ")) {
            WallLottery x = Check.town("house " + fact + ";house q;wall q " + fact + " 3;");
            Check.due("a house " + fact, x.wall(0, 1), 3);
            WallLottery y = Check.town(Check.houses(2) + Check.families(1, 0) + "family " + fact
                + " plain loud 0 ears 0 coins 0;owes fa " + fact + " 7;joy fond + felt + near + 1;");
            Check.due("a family " + fact, y.owes(0, 1), 7);
            Check.due("and a fact still", y.joy(0), 1);
        }
    }

    /** "of no HOUSE (behind wall), of no FAMILY": when as many are told as can be */
    private static void amongSix() {
        String six = Check.houses(6) + Check.families(6, 0);
        Check.townFault(2, six + "wall @x a 1;");
        Check.townFault(2, six + "wall f @x 1;");
        Check.townFault(2, six + "wall a @ff 1;");
        Check.townFault(2, six + "like @x fa 1;");
        Check.townFault(2, six + "apart ff @x;");
        Check.townFault(2, six + "owes fa @f 1;");
        WallLottery x = Check.town(six + "wall e f 9;owes ff fe 8;");
        Check.due("the last ones", x.wall(5, 4) * 10 + x.owes(5, 4), 98);
        Check.feed(x, "swap ff x;");
        Check.due("in days, too", x.days(), 2 + 16 * 8);
    }

    /** "no two (HOUSES, FAMILIES) are alike", "a NAME told already" */
    private static void namesAlike() {
        Check.townFault(3, "house a;house @a;");
        Check.townFault(3, Check.houses(5) + "house @e;");
        Check.townFault(3, "house a;family @a plain loud 0 ears 0 coins 0;");
        Check.townFault(3, Check.houses(2) + Check.families(1, 0) + "family @fa plain loud 0 ears 0 coins 0;");
        Check.townFault(3, Check.houses(2) + Check.families(1, 0) + "house @fa;");
        Check.townFault(3, Check.houses(6) + Check.families(5, 0) + "family @fe plain loud 0 ears 0 coins 0;");
        Check.due("a and aa are two", Check.town("house a;house aa;house aaa;").count(0), 3);
        WallLottery x = Check.town("house a;");
        Check.feed(x, "house a;");
        Check.due("the town before is of no matter", x.town(), 0);
    }

    /** "PART: a NUMBER, a fact, not PART, ( E )": nothing else begins one */
    private static void exprBegins() {
        for (String wrong : new String[] {"@;", "@)", "@+ 1;", "@- 1;", "@* 1;", "@< 1;", "@= 1;", "@and 1;", "@or 1;",
            "@f;", "@a;", "@house;", "(@);", "not @;", "not @+ 1;", "(@- 1);", "@?;", "@abcdefghi;", "@"}) {
            Check.townFault(1, ONE + "joy " + wrong);
            Check.townFault(1, ONE + "joy 1 + " + wrong);
            Check.townFault(1, ONE + "joy fond < " + wrong);
            Check.townFault(1, ONE + "joy not 0 and " + wrong);
        }
    }

    /** "E: TEST { and TEST or or TEST }", "SUM: PRODUCT { + or - PRODUCT }": nothing else goes on behind a PART */
    private static void exprGoesOn() {
        for (String wrong : new String[] {"@1;", "@fond;", "@not 1;", "@(1);", "@);", "@joy 1;", "@x;", "@?", "@"}) {
            Check.townFault(1, ONE + "joy 1 " + wrong);
            Check.townFault(1, ONE + "joy fond " + wrong);
            Check.townFault(1, ONE + "joy (1) " + wrong);
            Check.townFault(1, ONE + "joy 2 * 3 " + wrong);
        }
        Check.townFault(1, ONE + "joy (1 + 2@;");
        Check.townFault(1, ONE + "joy ((1)@;");
        Check.townFault(1, ONE + "joy (1 @2);");
    }

    /** "TEST: SUM, or SUM < SUM, or SUM = SUM" */
    private static void oneComparison() {
        Check.townFault(1, ONE + "joy 1 < 2 @< 3;");
        Check.townFault(1, ONE + "joy 1 < 2 @= 3;");
        Check.townFault(1, ONE + "joy 1 = 2 @= 3;");
        Check.townFault(1, ONE + "joy 1 = 2 @< 3;");
        Check.townFault(1, ONE + "joy 1 <@= 3;");
        Check.due("one on each side of and", Check.town(ONE + "joy 1 < 2 and 3 = 3;").joy(0), 1);
        Check.due("one within another", Check.town(ONE + "joy (1 < 2) = 1;").joy(0), 1);
    }

    /** "Facts: of noise loudness ..., hearing ..., brick ...; of joy fond ..., felt, near ...; of hedge mine, his ..., fond" */
    private static void factsOfLaws() {
        String[] laws = {"noise", "joy", "hedge"};
        String[] own = {" loudness hearing brick ", " fond felt near ", " mine his fond "};
        for (int law = 0; law < 3; law++) {
            for (String fact : "loudness hearing brick fond felt near mine his".split(" ")) {
                if (own[law].contains(" " + fact + " ")) {
                    Check.town(ONE + laws[law] + " " + fact + ";");
                } else {
                    Check.townFault(1, ONE + laws[law] + " @" + fact + ";");
                }
            }
        }
    }

    /** "no PART lies within 5 of not and ( )": within four it may */
    private static void fourDeep() {
        for (int bits = 0; bits < 16; bits++) {
            Check.town(ONE + "joy " + nested(bits, 4, "1") + ";");
            Check.town(ONE + "joy 1 + " + nested(bits, 4, "fond") + " * 2;");
        }
    }

    /** "not, or a PART, within 5 others" */
    private static void fiveDeep() {
        for (int bits = 0; bits < 32; bits++) {
            Check.townFault(5, ONE + "joy " + nested(bits, 5, "@1") + ";");
            for (String ahead : new String[] {"2 < ", "2 = ", "1 and ", "1 or ", "1 + ", "1 - ", "1 * ", "1 * 2 or "}) {
                Check.townFault(5, ONE + "joy " + ahead + nested(bits, 5, "@fond") + ";");
            }
            Check.townFault(5, ONE + "joy " + nested(bits, 5, "@not 1") + ";");
            Check.townFault(5, ONE + "joy " + nested(bits, 5, "@(1)") + ";");
        }
    }

    /** So many of not and ( ) around a PART: by bits which of them. */
    private static String nested(int bits, int deep, String part) {
        String text = part;
        for (int i = 0; i < deep; i++) {
            text = (bits >> i & 1) == 0 ? "not " + text : "(" + text + ")";
        }
        return text;
    }

    /** "no PART lies within 5": what lies behind a ) or behind the PART of a not is not within it */
    private static void depthEnds() {
        Check.due("one behind another", Check.town(ONE + "joy ((((1)))) + ((((2)))) + not not not not 3;").joy(0), 4);
        Check.due("not ends with its PART", Check.town(ONE + "joy not not not not 3 + not not not not 0 * 5;").joy(0), 1);
        Check.townFault(5, ONE + "joy (((1) + (2 * (3 + (@4)))));");
    }

    /** "FAULTS, kind + 16 * the place (from 0) of a token" */
    private static void place() {
        WallLottery x = new WallLottery();
        Check.feed(x, "?");
        Check.due("the first place", x.town(), 1);
        Check.feed(x, "\n ?");
        Check.due("blanks count", x.town(), 1 + 16 * 2);
        Check.feed(x, "family f");
        Check.due("kind 5 in place 0", x.town(), 5);
        Check.feed(x, " ".repeat(999) + "?");
        Check.due("the last place", x.town(), 1 + 16 * 999);
    }

    /** "the end being one at the text's length" */
    private static void theEnd() {
        Check.townFault(1, "house a@");
        Check.townFault(1, "house a   \n@");
        Check.townFault(1, "house@");
        Check.townFault(1, ONE + "joy 1 +@");
        Check.townFault(1, ONE + "joy (((((@");
        Check.townFault(1, ONE + "joy not not not not not @");
        Check.daysFault(1, "draw@");
        Check.daysFault(1, "draw 1  @");
        WallLottery x = new WallLottery();
        Check.feed(x, " ".repeat(995) + "house");
        Check.due("the text's length is 1,000", x.town(), 1 + 16 * 1000);
        Check.feed(x, " ".repeat(994) + "house a;");
        Check.due("and no more", x.town(), 1 + 16 * 1000);
    }

    /** "of the first token from the left that is wrong" */
    private static void firstFromTheLeft() {
        Check.townFault(4, Check.houses(2) + "wall a b @0;?");
        Check.townFault(2, Check.houses(2) + "wall @x y 0;");
        Check.townFault(3, Check.houses(2) + "wall a @a 0;");
        Check.townFault(5, Check.houses(6) + "@house a b c");
        Check.townFault(1, "house @1;family");
        Check.townFault(4, "house a;family f plain loud @99 ears 99 coins 9999;");
    }

    /** "that is wrong the least" */
    private static void leastKind() {
        // too deep for a PART, but no PART could begin so, either
        Check.townFault(1, ONE + "joy (((((@);");
        Check.townFault(1, ONE + "joy (((((@+ 1)))));");
        Check.townFault(1, ONE + "joy not not not not not @mine;");
        Check.townFault(1, ONE + "joy not not not not not @10000;");
        // too many, but no line begins so, either
        Check.townFault(1, Check.houses(6) + "@houses g;");
        Check.daysFault(1, "draw 1;".repeat(24) + "@house a;");
        Check.daysFault(1, "draw 1;".repeat(24) + "@;");
        // a NAME of none is no NAME, either
        two(1, "like cc @plain 1;");
    }

    /** "house NAME ;", "wall NAME NAME N ;", ..: every line has its ; */
    private static void everyLineEnds() {
        String[] lines = {"house xx", "wall aa bb 1", "like cc dd 1", "hate cc dd 1", "owes cc dd 1", "apart cc dd",
            "beside cc dd", "noise 1", "joy 1", "hedge 1"};
        for (String line : lines) {
            two(1, line + "@");
            two(1, line + " @house yy;");
            two(1, line + ";@;");
            Check.town(Check.TWO + line + ";");
        }
        Check.townFault(1, "house a;family f plain loud 0 ears 0 coins 0 @house b;");
    }
}
