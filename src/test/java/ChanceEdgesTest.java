/** The edges of odds, peace, hope, tampered barrels and centuries: a test for each sentence, under its words. */
public final class ChanceEdgesTest {
    private static final int MOST = Integer.MAX_VALUE;
    private static final int LEAST = Integer.MIN_VALUE;
    private static final int[] NO_THIRD = {-1, 2, 5, 6, MOST, LEAST};

    public static void main(String[] args) {
        oddsOfWhom();
        oddsCut();
        oddsOfAllHouses();
        oddsFromAnywhere();
        peaceOfWhom();
        peaceBySoMuch();
        peaceCut();
        hopeOfWhom();
        hopeCut();
        hopeBounds();
        tamperedWhom();
        tamperedDraws();
        tamperedTimes();
        tamperedCut();
        tamperedNeverAlways();
        centuriesSeed();
        centuriesDraws();
        centuriesWhat();
        centuriesFewFamilies();
        centuriesLoan();
        centuriesLoanCantBe();
        centuriesSwap();
        centuriesDrawsGoOn();
        centuriesTogether();
        centuriesFromNowOn();
        centuriesAsAhead();
        Check.end();
    }

    /** Three houses, one wall, two families. */
    private static WallLottery three(String more) {
        return Check.town(Check.houses(3) + Check.families(2, 0) + Check.walls("ab") + more);
    }

    /** "ODDS; NONE: others, the same." */
    private static void oddsOfWhom() {
        WallLottery x = three("");
        Check.due("two", x.odds(0, 1), x.odds(1, 0));
        Check.due("the same", x.odds(0, 0), -1);
        Check.due("the same", x.odds(1, 1), -1);
        for (int bad : NO_THIRD) {
            Check.due("odds " + bad, x.odds(bad, 0), -1);
            Check.due("odds 0 " + bad, x.odds(0, bad), -1);
        }
        Check.due("no second one", Check.town(Check.houses(2) + Check.families(1, 0)).odds(0, 1), -1);
    }

    /** "in millionths, cut": of ODDS */
    private static void oddsCut() {
        Check.due("1 of 3", three("").odds(0, 1), 333333);
        Check.due("2 of 3", three("wall b c 1;").odds(0, 1), 666666);
        Check.due("3 of 3", three("wall b c 1;wall a c 1;").odds(0, 1), 1000000);
        Check.due("0 of 1", Check.town(Check.houses(2) + Check.families(2, 0)).odds(0, 1), 0);
        Check.due("14 of 15", Check.town(Check.houses(6) + Check.families(6, 0)
            + Check.walls("ab ac ad ae af bc bd be bf cd ce cf de df")).odds(5, 0), 933333);
        Check.due("1 of 15", Check.town(Check.houses(6) + Check.families(2, 0) + Check.walls("ef")).odds(0, 1), 66666);
    }

    /** "A FAIR draw: each way to give HOUSES to all FAMILIES, one each, alike.": HOUSES where nobody lives, too */
    private static void oddsOfAllHouses() {
        for (int families = 2; families <= 6; families++) {
            WallLottery x = Check.town(Check.houses(6) + Check.families(families, 0) + Check.walls("ab cd ef"));
            Check.due("3 of 15 for two of " + families, x.odds(families - 1, 0), 200000);
            int ways = 1;
            for (int i = 0; i < families; i++) {
                ways *= 6 - i;
            }
            Check.due("ways of " + families, x.how(), ways);
        }
    }

    /** "that two are NEIGHBOURS by one": wherever they live now */
    private static void oddsFromAnywhere() {
        WallLottery x = Check.town(Check.ROW);
        int odds = x.odds(0, 2);
        int peace = x.peace(1, 4);
        int hope = x.hope(2);
        int tampered = x.tampered(0, 1, 3, 1);
        for (int seed = 0; seed < 9; seed++) {
            x.draw(seed);
            x.tale(0, 2, true);
            Check.due("odds", x.odds(0, 2), odds);
            Check.due("peace", x.peace(1, 4), peace);
            Check.due("hope", x.hope(2), hope);
            Check.due("tampered", x.tampered(0, 1, 3, 1), tampered);
        }
    }

    /** "PEACE by so much (0 to 999); NONE: others.": whom */
    private static void peaceOfWhom() {
        WallLottery x = three("noise 5;");
        Check.due("the last one", x.peace(1, 0), 666666);
        for (int bad : NO_THIRD) {
            Check.due("peace " + bad, x.peace(bad, 0), -1);
        }
        Check.due("one alone", Check.town(Check.houses(1) + Check.families(1, 0)).peace(0, 0), 1000000);
    }

    /** "PEACE by so much (0 to 999)": how much; "that what a FAMILY has FELT is no more than so much" */
    private static void peaceBySoMuch() {
        WallLottery x = three("noise 5;");
        Check.due("0", x.peace(0, 0), 666666);
        Check.due("one less", x.peace(0, 4), 666666);
        Check.due("no more", x.peace(0, 5), 1000000);
        Check.due("999", x.peace(0, 999), 1000000);
        for (int bad : new int[] {-1, 1000, MOST, LEAST}) {
            Check.due("most " + bad, x.peace(0, bad), -1);
        }
        WallLottery y = Check.town(Check.houses(6) + Check.families(6, 0) + Check.walls("ab ac ad ae af") + "noise 99;");
        Check.due("98", y.peace(5, 98), 0);
        Check.due("99", y.peace(5, 99), 833333);
        Check.due("494", y.peace(5, 494), 833333);
        Check.due("495", y.peace(5, 495), 1000000);
    }

    /** "in millionths, cut": of PEACE */
    private static void peaceCut() {
        WallLottery x = Check.town("house a;house b;house c;house d;house e;house f;wall a b 1;"
            + "family fa plain loud 0 ears 9 coins 0;family fb plain loud 5 ears 0 coins 0;"
            + "family fc plain loud 7 ears 0 coins 0;");
        // of 120 ways fa lives in a or b in 40, and then nobody beside it in 24, fb in 8, fc in 8
        Check.due("nobody: 104 of 120", x.peace(0, 0), 866666);
        Check.due("fb: 112 of 120", x.peace(0, 5 + 9 - 1), 933333);
        Check.due("one less than fc", x.peace(0, 7 + 9 - 2), 933333);
        Check.due("fc, too", x.peace(0, 7 + 9 - 1), 1000000);
    }

    /** "HOPE. NoSuchElementException: others." */
    private static void hopeOfWhom() {
        WallLottery x = three("joy 1;");
        Check.due("the last one", x.hope(1), 1000);
        Check.due("one way alone", Check.town(Check.houses(1) + Check.families(1, 0) + "joy 5;").hope(0), 5000);
        for (int bad : NO_THIRD) {
            Check.none("hope " + bad, () -> x.hope(bad));
        }
    }

    /** "its mean JOY, in thousandths (cut, as / does)" */
    private static void hopeCut() {
        Check.due("2 of 6", three("joy near;").hope(0), 333);
        Check.due("4 of 6", three("joy 2 * near;").hope(0), 666);
        Check.due("-2 of 6: towards 0", three("joy 0 - near;").hope(0), -333);
        Check.due("-4 of 6: towards 0", three("joy 0 - 2 * near;").hope(0), -666);
        Check.due("-8 of 6", three("joy 0 - 4 * near;").hope(0), -1333);
        Check.due("nothing", three("joy 0;").hope(0), 0);
    }

    /** "JOY: the E of joy (-999 to 999)": its mean, too */
    private static void hopeBounds() {
        Check.due("the most", three("joy 9999;").hope(0), 999000);
        Check.due("the least", three("joy 0 - 9999;").hope(0), -999000);
        Check.due("each is bound first", three("joy 9999 * near - 999;").hope(1), -333000);
        Check.due("720 ways", Check.town(Check.houses(6) + Check.families(6, 0) + "joy 0 - 1000;").hope(5), -999000);
    }

    /** "TAMPERED by so many draws, times (0 to these); NONE: others, the same.": whom */
    private static void tamperedWhom() {
        WallLottery x = three("");
        Check.due("either way", x.tampered(1, 0, 1, 1), 333333);
        Check.due("the same", x.tampered(0, 0, 1, 1), -1);
        for (int bad : NO_THIRD) {
            Check.due("tampered " + bad, x.tampered(bad, 0, 1, 1), -1);
            Check.due("tampered 0 " + bad, x.tampered(0, bad, 1, 1), -1);
        }
    }

    /** "by so many FAIR draws (1 to 6)" */
    private static void tamperedDraws() {
        WallLottery x = three("");
        long all = 1;
        for (int draws = 1; draws <= 6; draws++) {
            all *= 3;
            Check.due("every time of " + draws, x.tampered(0, 1, draws, draws), 1000000 / all);
        }
        for (int bad : new int[] {0, -1, 7, MOST, LEAST}) {
            Check.due("draws " + bad, x.tampered(0, 1, bad, 0), -1);
            Check.due("draws and times " + bad, x.tampered(0, 1, bad, bad), -1);
        }
    }

    /** "times (0 to these)", "two are NEIGHBOURS so many times or more" */
    private static void tamperedTimes() {
        WallLottery x = three("");
        // of 3^6: 64, 192, 240, 160, 60, 12, 1 by none, one, .., six
        int[] ways = {64, 192, 240, 160, 60, 12, 1};
        int orMore = 0;
        for (int times = 6; times >= 0; times--) {
            orMore += ways[times];
            Check.due(times + " of 6", x.tampered(0, 1, 6, times), orMore * 1000000L / 729);
        }
        for (int draws = 1; draws <= 6; draws++) {
            Check.due("0 or more", x.tampered(0, 1, draws, 0), 1000000);
            Check.due("one more than draws", x.tampered(0, 1, draws, draws + 1), -1);
            Check.due("one less than 0", x.tampered(0, 1, draws, -1), -1);
            Check.due("the most int", x.tampered(0, 1, draws, MOST), -1);
            Check.due("the least int", x.tampered(0, 1, draws, LEAST), -1);
        }
    }

    /** "the chance, in millionths, cut" */
    private static void tamperedCut() {
        WallLottery x = Check.town(Check.houses(6) + Check.families(2, 0) + Check.walls("ef"));
        Check.due("1 of 15", x.tampered(0, 1, 1, 1), 66666);
        Check.due("1 of 225", x.tampered(0, 1, 2, 2), 4444);
        Check.due("1 of 11390625", x.tampered(0, 1, 6, 6), 0);
        Check.due("all but 14^6", x.tampered(0, 1, 6, 1), 1000000 * (11390625L - 7529536) / 11390625);
        WallLottery y = Check.town(Check.houses(6) + Check.families(2, 0)
            + Check.walls("ab ac ad ae af bc bd be bf cd ce cf de df"));
        Check.due("14^6 of 15^6", y.tampered(0, 1, 6, 6), 1000000 * 7529536L / 11390625);
        Check.due("all but one of 15^6", y.tampered(0, 1, 6, 1), 999999);
    }

    /** "two are NEIGHBOURS so many times or more": never, always */
    private static void tamperedNeverAlways() {
        WallLottery never = Check.town(Check.TWO);
        WallLottery always = Check.town(Check.TWO + "wall aa bb 1;");
        for (int draws = 1; draws <= 6; draws++) {
            for (int times = 0; times <= draws; times++) {
                Check.due("never", never.tampered(0, 1, draws, times), times == 0 ? 1000000 : 0);
                Check.due("always", always.tampered(0, 1, draws, times), 1000000);
            }
        }
    }

    /** "CENTURIES by a SEED (0 to 9999), ...; NONE: others.": seeds */
    private static void centuriesSeed() {
        WallLottery x = Check.town(Check.ROW);
        Check.due("0", x.centuries(0, 1, 0) >= 0, true);
        Check.due("9999", x.centuries(9999, 1, 0) >= 0, true);
        for (int bad : new int[] {-1, 10000, MOST, LEAST}) {
            Check.due("seed " + bad, x.centuries(bad, 1, 0), -1);
        }
    }

    /** "of so many draws (1 to 60)" */
    private static void centuriesDraws() {
        WallLottery x = Check.town(Check.houses(1) + Check.families(1, 0));
        for (int draws : new int[] {1, 2, 59, 60}) {
            Check.due("draws " + draws, x.centuries(7, draws, 0), draws);
        }
        for (int bad : new int[] {0, -1, 61, MOST, LEAST}) {
            Check.due("draws " + bad, x.centuries(7, bad, 0), -1);
        }
    }

    /** "what 0: CONTENT, 1: BROKEN, 2: lapsed; NONE: others." */
    private static void centuriesWhat() {
        WallLottery x = Check.town(Check.TWO + "apart cc dd;beside cc dd;");
        Check.due("content", x.centuries(1, 5, 0), 10);
        Check.due("broken", x.centuries(1, 5, 1), 5);
        Check.due("lapsed", x.centuries(1, 5, 2), 0);
        for (int bad : new int[] {-1, 3, MOST, LEAST}) {
            Check.due("what " + bad, x.centuries(1, 5, bad), -1);
        }
    }

    /** The CENTURIES by hand, on an object like the one that is asked, with as many FAMILIES as HOUSES. */
    private static int[] byHand(WallLottery y, int seed, int draws) {
        int families = y.count(1);
        int houses = y.count(0);
        int lapsed = y.count(6);
        int[] due = new int[3];
        long[] g = {seed};
        for (int i = 0; i < draws; i++) {
            if (families >= 2) {
                int lender = below(g, families);
                int borrower = below(g, families);
                y.lend(lender, borrower, 1);
                if (below(g, 10) == 0) {
                    int one = below(g, families);
                    int other = below(g, families);
                    y.swap(one, other);
                }
            }
            // DRAW as by hand would begin by its own SEED: what lapses is told by it, the row is made by swaps
            y.draw(0);
            int[] row = new int[houses];
            for (int h = 0; h < houses; h++) {
                row[h] = h;
            }
            for (int last = houses - 1; last >= 1; last--) {
                int drawn = below(g, last + 1);
                int house = row[last];
                row[last] = row[drawn];
                row[drawn] = house;
            }
            for (int family = 0; family < families; family++) {
                int there = y.house(row[family]);
                if (there != family) {
                    y.swap(family, there);
                }
            }
            for (int family = 0; family < families; family++) {
                due[0] += y.family(family, 7);
            }
            due[1] += Integer.bitCount(y.broken());
        }
        due[2] = y.count(6) - lapsed;
        return due;
    }

    private static int below(long[] g, int most) {
        g[0] = (g[0] * 1103515245L + 12345L) % 2147483648L;
        return (int) (g[0] / 65536 % most);
    }

    private static void sameByHand(String text, int seed, int draws) {
        int[] due = byHand(Check.town(text), seed, draws);
        WallLottery x = Check.town(text);
        for (int what = 0; what < 3; what++) {
            Check.due("centuries " + seed + " " + draws + " " + what + " of " + text, x.centuries(seed, draws, what),
                due[what]);
        }
    }

    /** "each time, if there are two FAMILIES or more": with one, or none, only the HOUSES are drawn for */
    private static void centuriesFewFamilies() {
        String land = Check.houses(6) + "family fa plain loud 0 ears 0 coins 9;";
        Check.due("one is always content", Check.town(land).centuries(3, 60, 0), 60);
        Check.due("none", Check.town(Check.houses(6)).centuries(3, 60, 0), 0);
        Check.due("no house", Check.town("").centuries(3, 60, 1), 0);
        sameByHand(Check.houses(2) + Check.families(2, 9) + Check.walls("ab") + "apart fa fb;", 3, 12);
    }

    /** "two DRAWS below as many as there are tell who lends, and to whom: 1 coin" */
    private static void centuriesLoan() {
        // two who are always neighbours: each coin lent lapses by the draw behind it
        for (int seed = 0; seed < 20; seed++) {
            long[] g = {seed};
            int lends = below(g, 2) != below(g, 2) ? 1 : 0;
            WallLottery x = Check.town(Check.houses(2) + Check.families(2, 1) + Check.walls("ab"));
            Check.due("lapsed by " + seed, x.centuries(seed, 1, 2), lends);
        }
        String full = Check.houses(6) + Check.families(6, 9) + Check.walls("ab bc cd de ef fa");
        for (int seed = 100; seed < 120; seed++) {
            sameByHand(full + "apart fa fb;beside fc fd;", seed, 5);
        }
    }

    /** "1 coin, if that can be": without a coin, to no NEIGHBOUR, to oneself it can't */
    private static void centuriesLoanCantBe() {
        for (int seed = 0; seed < 20; seed++) {
            Check.due("no coins", Check.town(Check.houses(2) + Check.families(2, 0) + Check.walls("ab"))
                .centuries(seed, 60, 2), 0);
            Check.due("no wall", Check.town(Check.houses(2) + Check.families(2, 9)).centuries(seed, 60, 2), 0);
        }
        // one coin in all goes from one to the other, and back only by another loan
        sameByHand(Check.houses(2) + "family fa plain loud 0 ears 0 coins 1;family fb plain loud 0 ears 0 coins 0;"
            + Check.walls("ab"), 0, 14);
        sameByHand(Check.houses(4) + "family fz lawyer loud 0 ears 0 coins 2;" + Check.families(3, 0)
            + Check.walls("ab bc cd") + "beside fz fb;owes fb fz 9;owes fz fb 8;", 5, 14);
    }

    /** "then a DRAW below 10: if it is 0, two swap, whom two more DRAWS below as many tell (not if they are the same)" */
    private static void centuriesSwap() {
        // a swap is seen by what lapses: who is beside whom when the draw comes
        String land = Check.houses(3) + Check.families(3, 9) + Check.walls("ab") + "owes fa fb 10;owes fb fc 20;"
            + "owes fc fa 40;";
        int swapped = 0;
        int same = 0;
        for (int seed = 0; seed < 300; seed++) {
            long[] g = {seed};
            below(g, 3);
            below(g, 3);
            if (below(g, 10) == 0) {
                boolean one = below(g, 3) == below(g, 3);
                same += one ? 1 : 0;
                swapped += one ? 0 : 1;
                sameByHand(land, seed, 3);
            }
        }
        Check.due("both were seen", swapped > 0 && same > 0, true);
    }

    /** "then, always, a DRAW as by hand (its DRAWS go on)" */
    private static void centuriesDrawsGoOn() {
        // fa feels as thick a wall as it lives by, so who is content tells where they live
        String land = "house a;house b;house c;wall a b 1;wall b c 3;wall a c 9;" + Check.families(3, 2)
            + "noise brick;joy fond - felt + 7;like fa fb 1;hate fb fc 2;";
        for (int seed = 40; seed < 60; seed++) {
            sameByHand(land, seed, 1 + seed % 12);
        }
        // by one alone the first DRAW of the row is the first of all
        for (int seed = 0; seed < 30; seed++) {
            WallLottery x = Check.town(Check.houses(2) + Check.families(2, 0) + "joy 1;");
            Check.due("content", x.centuries(seed, 1, 0), 2);
        }
    }

    /** "CONTENT ones behind each, together; BROKEN customs, likewise; what lapsed." */
    private static void centuriesTogether() {
        String land = Check.houses(2) + Check.families(2, 0) + Check.walls("ab") + "owes fa fb 50;"
            + "apart fa fb;apart fa fb;apart fa fb;apart fa fb;beside fa fb;";
        WallLottery x = Check.town(land + "joy 0 - 1;");
        Check.due("none is content", x.centuries(8, 60, 0), 0);
        Check.due("four each time", x.centuries(8, 60, 1), 240);
        Check.due("what lapsed once", x.centuries(8, 60, 2), 50);
        Check.due("two each time", Check.town(land).centuries(8, 60, 0), 120);
    }

    /** "from now on" */
    private static void centuriesFromNowOn() {
        String land = Check.houses(3) + Check.families(2, 0) + Check.walls("ab") + "owes fa fb 50;";
        WallLottery x = Check.town(land);
        Check.due("neighbours now: by the first draw", x.centuries(1, 1, 2), 50);
        x.draw(0);
        Check.due("lapsed by hand", x.centuries(1, 60, 2), 0);
        Check.due("undone", x.undo() && x.centuries(1, 1, 2) == 50, true);
        WallLottery y = Check.town(Check.houses(3) + Check.families(3, 0) + Check.walls("ab") + "owes fa fc 50;");
        Check.due("not neighbours", y.centuries(0, 1, 2), 0);
        y.swap(1, 2);
        Check.due("neighbours by a swap", y.centuries(0, 1, 2), 50);
    }

    /** "(all is as ahead then)" */
    private static void centuriesAsAhead() {
        WallLottery x = Check.town(Check.ROW);
        x.lend(0, 1, 3);
        x.draw(4);
        x.swap(0, 2);
        String before = Check.picture(x);
        for (int what = -1; what <= 3; what++) {
            x.centuries(12, 60, what);
        }
        Check.samePicture("as ahead", Check.picture(x), before);
        Check.due("undone as ahead", x.undo() && x.undo() && x.undo() && x.owes(1, 0) == 0, true);
    }
}
