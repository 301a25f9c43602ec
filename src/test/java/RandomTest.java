import java.util.ArrayList;
import java.util.HashSet;
import java.util.List;
import java.util.NoSuchElementException;
import java.util.Random;
import java.util.Set;

/** Promises 1 to 32 at once: runs of calls, always the same ones, on the class and on the Oracle side by side. */
public final class RandomTest {
    private static final String[] NAMES = {"a", "bb", "cat", "dora", "eve", "fond", "hisself", "loudness", "near",
        "brick", "zzzzzzzz", "mine", "k"};
    private static final String[] KINDS = {"plain", "fiddler", "sleeper", "lawyer"};
    private static final String[][] FACTS = {{"loudness", "hearing", "brick"}, {"fond", "felt", "near"},
        {"mine", "his", "fond"}};
    private static final String[] SCRAPS = {";", "house", "family", "wall", "not", "and", "or", "(", ")", "<", "=",
        "+", "-", "*", "0", "10", "999", "1000", "12345", "toolongword", "A", "!", "plain", "like", "a", "bb", "fond",
        "his", "apart", "swap", "draw", "7x", "\n", "noise", "joy", "hedge"};
    private static final int[] EDGES = {-2, -1, 6, 7, Integer.MAX_VALUE, Integer.MIN_VALUE};
    private static final int RUNS = 1200;

    private static int deepest = 4;
    private static Random r = new Random(7);
    private static List<String> log = new ArrayList<>();
    private static boolean same = true;

    public static void main(String[] args) {
        for (int run = 0; run < RUNS; run++) {
            r = new Random(run);
            log = new ArrayList<>();
            if (!isSame()) {
                System.out.println("run " + run);
                log.forEach(System.out::println);
                System.exit(1);
            }
        }
    }

    private static int upTo(int most) {
        return r.nextInt(most + 1);
    }

    private static String one(String... of) {
        return of[r.nextInt(of.length)];
    }

    private static String part(String[] facts, int depth) {
        int kind = r.nextInt(10);
        if (depth < deepest && kind == 0) {
            return "not " + part(facts, depth + 1);
        }
        if (depth < deepest && kind <= 2) {
            return "(" + chain(facts, depth + 1) + ")";
        }
        return kind <= 5 ? Integer.toString(r.nextInt(kind == 3 ? 10000 : 12)) : one(facts);
    }

    private static String sum(String[] facts, int depth) {
        StringBuilder text = new StringBuilder(part(facts, depth));
        for (int i = upTo(2); i > 0; i--) {
            text.append(one("+", " - ", "*")).append(part(facts, depth));
        }
        return text.toString();
    }

    private static String chain(String[] facts, int depth) {
        StringBuilder text = new StringBuilder();
        for (int i = r.nextInt(4) / 2; i >= 0; i--) {
            text.append(sum(facts, depth));
            if (r.nextInt(3) == 0) {
                text.append(one("<", " = ")).append(sum(facts, depth));
            }
            if (i > 0) {
                text.append(one(" and ", " or "));
            }
        }
        return text.toString();
    }

    /** A town that is mostly right; its names are NAMES[0 ..], houses first. */
    private static String townText(int houses, int families) {
        List<String> lines = new ArrayList<>();
        for (int h = 0; h < houses; h++) {
            lines.add("house " + NAMES[h]);
        }
        for (int h = 0; h < houses; h++) {
            for (int o = h + 1; o < houses; o++) {
                if (r.nextInt(5) < 3) {
                    String two = r.nextBoolean() ? NAMES[h] + " " + NAMES[o] : NAMES[o] + " " + NAMES[h];
                    lines.add("wall " + two + " " + (1 + r.nextInt(9)));
                }
            }
        }
        for (int f = 0; f < families; f++) {
            lines.add("family " + NAMES[houses + f] + " " + one(KINDS) + " loud " + upTo(9) + "ears " + upTo(9)
                + "\ncoins " + upTo(r.nextBoolean() ? 9 : 999));
        }
        Set<String> told = new HashSet<>();
        int customs = 0;
        for (int i = upTo(14); i > 0 && families > 1; i--) {
            int f = r.nextInt(families);
            int o = (f + 1 + r.nextInt(families - 1)) % families;
            String act = one("like", "hate", "owes", "owes", "owes", "apart", "beside");
            String two = act + " " + NAMES[houses + f] + " " + NAMES[houses + o];
            if (act.equals("apart") || act.equals("beside")) {
                customs++;
                lines.add(customs <= 4 || r.nextInt(9) == 0 ? two : "");
            } else if (told.add(two) || r.nextInt(20) == 0) {
                lines.add(two + " " + (1 + upTo(act.equals("owes") ? 98 : 8)));
            }
        }
        lines.removeIf(String::isEmpty);
        for (int law = 0; law < 3; law++) {
            if (r.nextBoolean()) {
                deepest = r.nextInt(20) == 0 ? 5 : 1 + r.nextInt(4);
                lines.add((law == 0 ? "noise " : law == 1 ? "joy " : "hedge ") + chain(FACTS[law], 0));
            }
        }
        return String.join(r.nextBoolean() ? ";" : " ;\n", lines) + (lines.isEmpty() ? "" : ";");
    }

    private static String daysText(int houses, int families) {
        StringBuilder text = new StringBuilder();
        for (int i = upTo(r.nextInt(5) == 0 ? 26 : 8); i > 0; i--) {
            String act = one("draw", "swap", "lend", "pay");
            text.append(act);
            if (!act.equals("draw") && families > 1) {
                int f = r.nextInt(families);
                text.append(' ').append(NAMES[houses + f]).append(' ')
                    .append(NAMES[houses + (f + 1 + r.nextInt(families - 1)) % families]);
            }
            if (!act.equals("swap")) {
                text.append(' ').append(1 + upTo(act.equals("draw") ? 9998 : 12));
            }
            text.append(';');
        }
        return text.toString();
    }

    private static String spoilt(String text) {
        int at = r.nextInt(text.length() + 1);
        switch (r.nextInt(5)) {
            case 0: return text.substring(0, at);
            case 1: return text.substring(0, at) + " " + one(SCRAPS) + " " + text.substring(at);
            case 2: return text.substring(0, at) + one(SCRAPS) + text.substring(at);
            case 3: return text.substring(0, at) + text.substring(Math.min(text.length(), at + 1 + r.nextInt(6)));
            default:
                String[] words = text.split(" ");
                words[r.nextInt(words.length)] = one(SCRAPS);
                return String.join(" ", words);
        }
    }

    private static void feed(WallLottery x, Oracle y, String text) {
        for (int i = 0; i < text.length(); i += 24) {
            long a = Check.eight(text, i);
            long b = Check.eight(text, i + 8);
            long c = Check.eight(text, i + 16);
            agree("feed", x.feed(a, b, c), y.feed(a, b, c));
        }
        log.add("fed: " + text);
    }

    private static boolean isSame() {
        WallLottery x = new WallLottery();
        Oracle y = new Oracle();
        int rounds = 1 + upTo(2);
        for (int round = 0; round < rounds; round++) {
            if (!isSameRound(x, y, 150 / rounds)) {
                return false;
            }
        }
        return true;
    }

    /** A spoilt town and a right one, spoilt days and right ones, then calls: some 512 in all rounds of an object. */
    private static boolean isSameRound(WallLottery x, Oracle y, int calls) {
        int houses = r.nextInt(12) == 0 ? upTo(6) : 2 + upTo(3) + (r.nextInt(6) == 0 ? 1 : 0);
        int families = houses - (r.nextInt(3) == 0 ? upTo(houses) : upTo(Math.min(houses, 1)));
        for (int i = 0; i < 2; i++) {
            String text = townText(houses, families);
            feed(x, y, i < 1 ? spoilt(text) : text);
            if (!agree("town", x.town(), y.town())) {
                return false;
            }
        }
        for (int i = 0; i < 2; i++) {
            String text = daysText(houses, families);
            feed(x, y, i < 1 ? spoilt(text) : text);
            if (!agree("days", x.days(), y.days())) {
                return false;
            }
        }
        for (int i = 0; i < calls; i++) {
            if (!sameCall(x, y)) {
                return false;
            }
        }
        return true;
    }

    private static boolean agree(String call, long got, long want) {
        log.add(call + " answered " + got + (got == want ? "" : ", due is " + want));
        same &= got == want;
        return same;
    }

    private static int any(int most) {
        return r.nextInt(20) == 0 ? EDGES[r.nextInt(EDGES.length)]
            : upTo(most);
    }

    private interface Ask {
        int answer();
    }

    private static long thrown(Ask ask) {
        try {
            return ask.answer();
        } catch (NoSuchElementException e) {
            return Long.MIN_VALUE;
        }
    }

    private static long bit(boolean so) {
        return so ? 1 : 0;
    }

    private static boolean sameCall(WallLottery x, Oracle y) {
        int n = Math.max(0, y.families() - 1);
        int a = any(n);
        int b = any(n);
        int c = any(12);
        boolean z = r.nextBoolean();
        String two = "(" + a + ", " + b + ")";
        String three = "(" + a + ", " + b + ", " + c + ")";
        switch (r.nextInt(32)) {
            case 0:
                int h = any(6);
                return agree("house" + h, x.house(h), y.house(h));
            case 1:
                int i = any(6);
                int j = any(6);
                return agree("wall" + i + " " + j, x.wall(i, j), y.wall(i, j));
            case 2: return agree("family" + a + " " + c, x.family(a, c), y.family(a, c));
            case 3: return agree("joy" + a, thrown(() -> x.joy(a)), thrown(() -> y.joy(a)));
            case 4: return agree("owes" + two, x.owes(a, b), y.owes(a, b));
            case 5:
                int seed = any(9999);
                return agree("draw " + seed, x.draw(seed), y.draw(seed));
            case 6: return agree("swap" + two, bit(x.swap(a, b)), bit(y.swap(a, b)));
            case 7: case 8: return agree("lend" + three, bit(x.lend(a, b, c)), bit(y.lend(a, b, c)));
            case 9: return agree("pay" + three, bit(x.pay(a, b, c)), bit(y.pay(a, b, c)));
            case 10: return agree("undo", bit(x.undo()), bit(y.undo()));
            case 11:
                int what = any(2);
                return agree("judged " + what, x.judged(what), y.judged(what));
            case 12: return agree("broken", x.broken(), y.broken());
            case 13: return agree("odds" + two, x.odds(a, b), y.odds(a, b));
            case 14:
                int most = any(r.nextBoolean() ? 30 : 1000);
                return agree("peace " + a + " " + most, x.peace(a, most), y.peace(a, most));
            case 15: return agree("hope " + a, thrown(() -> x.hope(a)), thrown(() -> y.hope(a)));
            case 16:
                int m = r.nextInt(3) == 0 ? -1 : a;
                return agree("mend " + m, x.mend(m), y.mend(m));
            case 17:
                int p = any(8);
                return agree("please " + p, x.please(p), y.please(p));
            case 18:
                int q = r.nextInt(3) == 0 ? -1 : a;
                return agree("quiet " + q, x.quiet(q), y.quiet(q));
            case 19: case 20:
                int w = any(5) - 1;
                return agree("rests" + two + w, thrown(() -> x.rests(a, b, w)), thrown(() -> y.rests(a, b, w)));
            case 21: return agree("tale" + two + z, bit(x.tale(a, b, z)), bit(y.tale(a, b, z)));
            case 22: return agree("how", x.how(), y.how());
            case 23: return agree("were" + two, x.were(a, b), y.were(a, b));
            case 24: return agree("ask", x.ask(), y.ask());
            case 25: return agree("gains " + a, thrown(() -> x.gains(a)), thrown(() -> y.gains(a)));
            case 26:
                int draws = any(7);
                int times = any(6);
                return agree("tampered" + two + draws + " " + times, x.tampered(a, b, draws, times),
                    y.tampered(a, b, draws, times));
            case 27: case 28:
                int s = any(10000);
                int d = any(r.nextBoolean() ? 4 : 61);
                int k = any(3);
                return agree("centuries " + s + " " + d + " " + k, x.centuries(s, d, k), y.centuries(s, d, k));
            case 29:
                int mark = any(4);
                return agree("mark " + mark + z, bit(x.mark(mark, z)), bit(y.mark(mark, z)));
            default: return agree("count " + c, x.count(c), y.count(c));
        }
    }
}
