import java.util.NoSuchElementException;

/** What the tests share: asking, feeding texts, and a count of the answers that were not due. */
final class Check {
    /** Two houses and two plain families: the shortest town in which most lines can stand. */
    static final String TWO = "house aa ; house bb ; family cc plain loud 1 ears 1 coins 1 ; "
        + "family dd plain loud 1 ears 1 coins 1 ; ";

    /** The town of four houses in a row and three families by which most is checked by hand. */
    static final String ROW = "house a ; house b ; house c ; house d ; wall a b 2 ; wall b c 5 ; wall c d 1 ; "
        + "family ann plain loud 4 ears 3 coins 10 ; family bob fiddler loud 5 ears 1 coins 0 ; "
        + "family cid sleeper loud 2 ears 9 coins 7 ; like ann bob 6 ; hate bob ann 2 ; like cid bob 1 ; "
        + "owes ann bob 5 ; owes cid ann 3 ; apart ann cid ; beside ann bob ;";

    private static int wrong = 0;

    private Check() {
    }

    static void due(String what, long got, long want) {
        if (got != want) {
            wrong++;
            System.out.println(what + " answered " + got + ", due is " + want);
        }
    }

    static void due(String what, boolean got, boolean want) {
        due(what, got ? 1 : 0, want ? 1 : 0);
    }

    interface Ask {
        int answer();
    }

    /** The call must throw NoSuchElementException and nothing else. */
    static void none(String what, Ask ask) {
        try {
            int got = ask.answer();
            wrong++;
            System.out.println(what + " answered " + got + ", due is NoSuchElementException");
        } catch (NoSuchElementException e) {
            return;
        }
    }

    /** Reads a text as a TOWN on a new object; in it @ stands ahead of the token that must be told as wrong. */
    static void townFault(int kind, String marked) {
        WallLottery x = new WallLottery();
        feed(x, marked.replace("@", ""));
        due("town: " + marked, x.town(), kind + 16 * marked.indexOf('@'));
        due("no town by " + marked, x.count(0), 0);
        due("the tape is taken by " + marked, x.count(12), 0);
    }

    /** Likewise as DAYS, in the town TWO. */
    static void daysFault(int kind, String marked) {
        WallLottery x = town(TWO);
        feed(x, marked.replace("@", ""));
        due("days: " + marked, x.days(), kind + 16 * marked.indexOf('@'));
        due("no days by " + marked, x.count(9), 0);
        due("the tape is taken by " + marked, x.count(12), 0);
    }

    /** Lines of so many HOUSES a, b, .. */
    static String houses(int many) {
        StringBuilder text = new StringBuilder();
        for (int i = 0; i < many; i++) {
            text.append("house ").append((char) ('a' + i)).append(";");
        }
        return text.toString();
    }

    /** Lines of so many plain FAMILIES fa, fb, .. without a sound, with so many coins each. */
    static String families(int many, int coins) {
        StringBuilder text = new StringBuilder();
        for (int i = 0; i < many; i++) {
            text.append("family f").append((char) ('a' + i)).append(" plain loud 0 ears 0 coins ").append(coins)
                .append(";");
        }
        return text.toString();
    }

    /** Lines of walls, 1 thick, told as "ab bc". */
    static String walls(String pairs) {
        StringBuilder text = new StringBuilder();
        for (String pair : pairs.split(" ")) {
            text.append("wall ").append(pair.charAt(0)).append(" ").append(pair.charAt(1)).append(" 1;");
        }
        return text.toString();
    }

    /** All that can be seen of an object without changing it, but for its TAPE: to see that nothing has changed. */
    static String picture(WallLottery x) {
        StringBuilder seen = new StringBuilder();
        for (int what = 0; what < 12; what++) {
            seen.append(x.count(what)).append(' ');
        }
        for (int f = 0; f < x.count(1); f++) {
            for (int what = 3; what < 8; what++) {
                seen.append(x.family(f, what)).append(' ');
            }
            for (int o = 0; o < x.count(1); o++) {
                seen.append(x.owes(f, o)).append(' ').append(x.were(f, o)).append(' ');
            }
            seen.append(x.joy(f)).append(' ').append(x.hope(f)).append(' ').append(x.mend(f)).append(' ')
                .append(x.please(2 + f)).append(' ').append(x.quiet(f)).append(' ').append(x.gains(f)).append(';');
        }
        for (int what = 0; what < 3; what++) {
            seen.append(x.judged(what)).append(' ').append(x.centuries(5, 9, what)).append(' ');
        }
        return seen.append(x.broken()).append(' ').append(x.how()).append(' ').append(x.ask()).toString();
    }

    static void samePicture(String what, String got, String want) {
        if (!got.equals(want)) {
            System.out.println(got + "\nis not\n" + want);
        }
        due(what, got.equals(want), true);
    }

    static void feed(WallLottery x, String text) {
        for (int i = 0; i < text.length(); i += 24) {
            x.feed(eight(text, i), eight(text, i + 8), eight(text, i + 16));
        }
    }

    static long eight(String text, int from) {
        long packed = 0;
        for (int i = from; i < from + 8; i++) {
            packed = packed << 8 | (i < text.length() ? text.charAt(i) & 255 : 0);
        }
        return packed;
    }

    static WallLottery town(String text) {
        WallLottery x = new WallLottery();
        feed(x, text);
        due("town: " + text, x.town(), 0);
        return x;
    }

    static void days(WallLottery x, String text) {
        feed(x, text);
        due("days: " + text, x.days(), 0);
    }

    static void end() {
        if (wrong != 0) {
            System.out.println(wrong + " answers are not as due");
            System.exit(1);
        }
    }
}
