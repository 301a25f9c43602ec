/** Promises 10 to 15: draw, swap, lend, pay, undo, judged. */
public final class YearsTest {
    private static final int[] WRONG = {-1, 3, 6, Integer.MAX_VALUE, Integer.MIN_VALUE};

    public static void main(String[] args) {
        draws();
        lapses();
        swaps();
        loans();
        payments();
        undone();
        lastSixteen();
        judged();
        Check.end();
    }

    private static void homes(String what, WallLottery x, int... due) {
        for (int family = 0; family < due.length; family++) {
            Check.due(what + ": home of " + family, x.family(family, 4), due[family]);
        }
    }

    private static void draws() {
        WallLottery x = Check.town(Check.ROW);
        // by 0: g is 12345, 1406932606, 654583775: 0 below 4, 21468 below 3 is 0, 9988 below 2 is 0
        Check.due("draw", x.draw(0), 5);
        homes("draw 0", x, 1, 2, 3);
        Check.due("nobody", x.house(0), -1);
        Check.due("draws", x.count(5), 1);
        Check.due("lapsed", x.count(6), 5);
        // by 1: g is 1103527590, 377401575, 662824084: 16838 below 4 is 2, 5758 below 3 is 1, 10113 below 2 is 1
        x.draw(1);
        homes("draw 1", x, 0, 3, 1);
        Check.due("the greatest seed, when cid lives beside ann", x.draw(9999), 3);
        Check.due("draws", x.count(5), 3);
        for (int bad : new int[] {-1, 10000, Integer.MAX_VALUE, Integer.MIN_VALUE}) {
            Check.due("draw " + bad, x.draw(bad), -1);
        }
        Check.due("no draw by these", x.count(5), 3);
        Check.due("nothing to undo of these", x.count(11), 3);
    }

    private static void lapses() {
        String land = "house a;house b;house c;wall a b 1;wall b c 1;family f plain loud 0 ears 0 coins 9;"
            + "family g lawyer loud 0 ears 0 coins 9;family h plain loud 0 ears 0 coins 9;"
            + "owes f g 10;owes g f 20;owes f h 30;owes h f 40;owes g h 50;owes h g 60;";
        WallLottery x = Check.town(land);
        Check.due("what a lawyer owes lapses", x.draw(7), 70);
        Check.due("owed to a lawyer", x.owes(0, 1), 10);
        Check.due("owed by a lawyer", x.owes(1, 0), 0);
        Check.due("no neighbours", x.owes(0, 2), 30);
        Check.due("no neighbours", x.owes(2, 0), 40);
        Check.due("owed by a lawyer", x.owes(1, 2), 0);
        Check.due("owed to a lawyer", x.owes(2, 1), 60);
        Check.due("debts", x.count(8), 140);
        Check.due("lapsed", x.count(6), 70);
        Check.due("coins stay", x.count(7), 27);
    }

    private static void swaps() {
        WallLottery x = Check.town(Check.ROW);
        Check.due("swap", x.swap(0, 2), true);
        homes("swap", x, 2, 1, 0);
        Check.due("house", x.house(2), 0);
        Check.due("the same", x.swap(1, 1), false);
        for (int bad : WRONG) {
            Check.due("swap " + bad, x.swap(bad, 0), false);
            Check.due("swap 0 " + bad, x.swap(0, bad), false);
        }
        homes("wrong swaps", x, 2, 1, 0);
        Check.due("one to undo", x.count(11), 1);
    }

    private static void loans() {
        WallLottery x = Check.town(Check.ROW);
        Check.due("no neighbours", x.lend(0, 2, 1), false);
        Check.due("no such coins", x.lend(1, 0, 1), false);
        Check.due("more than it has", x.lend(0, 1, 11), false);
        Check.due("the same", x.lend(0, 0, 1), false);
        Check.due("0 coins", x.lend(0, 1, 0), false);
        Check.due("fewer than none", x.lend(0, 1, -1), false);
        Check.due("1000 coins", x.lend(0, 1, 1000), false);
        for (int bad : WRONG) {
            Check.due("lend " + bad, x.lend(bad, 1, 1), false);
            Check.due("lend to " + bad, x.lend(1, bad, 1), false);
        }
        Check.due("nothing to undo of these", x.count(11), 0);
        Check.due("all it has", x.lend(0, 1, 10), true);
        Check.due("its coins", x.family(0, 3), 0);
        Check.due("the other one's", x.family(1, 3), 10);
        Check.due("owes", x.owes(1, 0), 10);
        Check.due("owes as ahead", x.owes(0, 1), 5);
        Check.due("on", x.lend(1, 2, 4), true);
        Check.due("once more", x.lend(1, 2, 1), true);
        Check.due("owes so much more", x.owes(2, 1), 5);
        WallLottery rich = Check.town("house a;house b;wall a b 1;family f plain loud 0 ears 0 coins 999;"
            + "family g plain loud 0 ears 0 coins 999;");
        Check.due("999", rich.lend(0, 1, 999), true);
        Check.due("1998 coins", rich.family(1, 3), 1998);
    }

    private static void payments() {
        WallLottery x = Check.town(Check.ROW);
        Check.due("more than it owes", x.pay(0, 1, 6), false);
        Check.due("it owes nothing", x.pay(1, 0, 1), false);
        Check.due("the same", x.pay(0, 0, 1), false);
        Check.due("0 coins", x.pay(0, 1, 0), false);
        Check.due("fewer than none", x.pay(0, 1, -5), false);
        Check.due("1000 coins", x.pay(0, 1, 1000), false);
        for (int bad : WRONG) {
            Check.due("pay " + bad, x.pay(bad, 1, 1), false);
            Check.due("pay to " + bad, x.pay(0, bad, 1), false);
        }
        Check.due("nothing to undo of these", x.count(11), 0);
        Check.due("to no neighbour", x.pay(2, 0, 2), true);
        Check.due("it owes less", x.owes(2, 0), 1);
        Check.due("its coins", x.family(2, 3), 5);
        Check.due("the other one's", x.family(0, 3), 12);
        Check.due("all", x.pay(0, 1, 5), true);
        Check.due("it owes nothing now", x.pay(0, 1, 1), false);
        WallLottery poor = Check.town("house a;house b;family f plain loud 0 ears 0 coins 3;"
            + "family g plain loud 0 ears 0 coins 0;owes f g 9;");
        Check.due("more than it has", poor.pay(0, 1, 4), false);
        Check.due("what it has", poor.pay(0, 1, 3), true);
        Check.due("still owed", poor.owes(0, 1), 6);
    }

    private static void undone() {
        WallLottery x = Check.town(Check.ROW);
        Check.due("nothing yet", x.undo(), false);
        x.lend(0, 1, 3);
        x.pay(2, 0, 2);
        x.swap(0, 1);
        x.tale(0, 1, true);
        Check.due("draw", x.draw(5), 8 + 1);
        Check.due("four", x.count(11), 4);
        Check.due("undo the draw", x.undo(), true);
        Check.due("draws", x.count(5), 0);
        Check.due("lapsed", x.count(6), 0);
        homes("ahead of the draw", x, 1, 0, 2);
        Check.due("debts are back", x.owes(0, 1), 5);
        Check.due("undo the swap", x.undo(), true);
        homes("ahead of the swap", x, 0, 1, 2);
        Check.due("paid still", x.owes(2, 0), 1);
        Check.due("undo the payment", x.undo(), true);
        Check.due("not paid", x.owes(2, 0), 3);
        Check.due("coins", x.family(2, 3), 7);
        Check.due("lent still", x.owes(1, 0), 3);
        Check.due("undo the loan", x.undo(), true);
        Check.due("not lent", x.owes(1, 0), 0);
        Check.due("coins", x.family(0, 3), 10);
        Check.due("no more", x.undo(), false);
        Check.due("a tale is not undone", x.count(10), 1);
    }

    private static void lastSixteen() {
        String land = "house a;house b;wall a b 1;family f plain loud 0 ears 0 coins 999;"
            + "family g plain loud 0 ears 0 coins 0;";
        WallLottery x = Check.town(land);
        for (int i = 1; i <= 20; i++) {
            x.lend(0, 1, i);
            Check.due("can be undone", x.count(11), Math.min(i, 16));
        }
        for (int i = 20; i > 4; i--) {
            Check.due("owes", x.owes(1, 0), i * (i + 1) / 2);
            Check.due("undo " + i, x.undo(), true);
        }
        Check.due("sixteen back", x.owes(1, 0), 10);
        Check.due("no further", x.undo(), false);
        Check.due("and stays", x.owes(1, 0), 10);
        x.lend(0, 1, 100);
        Check.due("on from there", x.undo(), true);
        Check.due("as ahead", x.owes(1, 0), 10);
    }

    private static void judge(WallLottery x, String text, int impossible, int breaking, int lapsed) {
        Check.days(x, text);
        Check.due("first that can't be: " + text, x.judged(0), impossible);
        Check.due("first that breaks: " + text, x.judged(1), breaking);
        Check.due("lapsed: " + text, x.judged(2), lapsed);
    }

    private static void judged() {
        WallLottery x = Check.town(Check.ROW);
        judge(x, "", -1, -1, 0);
        judge(x, "lend ann bob 3;pay bob ann 3;pay cid ann 3;", -1, -1, 0);
        judge(x, "lend ann cid 1;lend bob ann 1;", 0, -1, 0);
        judge(x, "lend ann bob 10;lend ann bob 1;pay bob ann 11;", 1, -1, 0);
        // what can't be is left out: bob has only the 2 that can be lent
        judge(x, "lend ann bob 11;lend ann bob 2;pay bob ann 2;", 0, -1, 0);
        judge(x, "swap ann bob;", -1, 0, 0);
        judge(x, "lend ann bob 1;swap bob cid;swap bob cid;", -1, 1, 0);
        // by 0 the three move on by one house: ann and bob stay neighbours, ann and cid are none
        judge(x, "lend ann bob 4;draw 0;", -1, -1, 5 + 4);
        judge(x, "draw 0;draw 0;lend ann bob 1;draw 0;", -1, -1, 5 + 1);
        for (int bad : new int[] {-1, 3, Integer.MAX_VALUE, Integer.MIN_VALUE}) {
            Check.due("judged " + bad, x.judged(bad), -2);
        }
        // from the begin, whatever was done since, and nothing is changed by it
        x.swap(0, 2);
        x.pay(0, 1, 5);
        judge(x, "pay ann bob 5;", -1, -1, 0);
        Check.due("what was done stays", x.family(0, 4), 2);
        Check.due("paid", x.owes(0, 1), 0);
        Check.due("no draw by it", x.count(5), 0);
        Check.due("two to undo", x.count(11), 2);
        // a custom that is broken from the begin is so behind the first line, be it left out or not
        WallLottery y = Check.town(Check.TWO + "beside cc dd;");
        judge(y, "", -1, -1, 0);
        judge(y, "lend cc dd 1;swap cc dd;", 0, 0, 0);
    }
}
