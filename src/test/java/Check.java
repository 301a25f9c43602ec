import java.util.NoSuchElementException;

/** What the tests share: asking, feeding texts, and a count of the answers that were not due. */
final class Check {
    /** Two houses and two plain families: the shortest town in which most lines can stand. */
    static final String TWO = "house aa ; house bb ; family cc plain loud 1 ears 1 coins 1 ; "
        + "family dd plain loud 1 ears 1 coins 1 ; ";

    /** The town of four houses in a row and three families by which most is checked by hand. */
    static final String ROW = "house a ; house b ; house c ; house d ; wall a b 2 ; wall b c 5 ; wall c d 1 ; "
        + "family ann plain loud 4 ears 3 coins 10 ; family bob fiddler loud 5 ears 1 coins 0 ; "
        + "family cid sleeper loud 2 ears 9 coins 7 ; like ann bob 6 ; hate bob ann 2 ; like cid bob 1 ; "
        + "owes ann bob 5 ; owes cid ann 3 ; apart ann cid ; beside ann bob ;";

    private static int wrong = 0;

    private Check() {
    }

    static void due(String what, long got, long want) {
        if (got != want) {
            wrong++;
            System.out.println(what + " answered " + got + ", due is " + want);
        }
    }

    static void due(String what, boolean got, boolean want) {
        due(what, got ? 1 : 0, want ? 1 : 0);
    }

    interface Ask {
        int answer();
    }

    /** The call must throw NoSuchElementException and nothing else. */
    static void none(String what, Ask ask) {
        try {
            int got = ask.answer();
            wrong++;
            System.out.println(what + " answered " + got + ", due is NoSuchElementException");
        } catch (NoSuchElementException e) {
            return;
        }
    }

    static void feed(WallLottery x, String text) {
        for (int i = 0; i < text.length(); i += 24) {
            x.feed(eight(text, i), eight(text, i + 8), eight(text, i + 16));
        }
    }

    static long eight(String text, int from) {
        long packed = 0;
        for (int i = from; i < from + 8; i++) {
            packed = packed << 8 | (i < text.length() ? text.charAt(i) & 255 : 0);
        }
        return packed;
    }

    static WallLottery town(String text) {
        WallLottery x = new WallLottery();
        feed(x, text);
        due("town: " + text, x.town(), 0);
        return x;
    }

    static void days(WallLottery x, String text) {
        feed(x, text);
        due("days: " + text, x.days(), 0);
    }

    static void end() {
        if (wrong != 0) {
            System.out.println(wrong + " answers are not as due");
            System.exit(1);
        }
    }
}
