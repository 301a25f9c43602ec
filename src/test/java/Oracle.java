import java.util.ArrayDeque;
import java.util.ArrayList;
import java.util.Arrays;
import java.util.Deque;
import java.util.HashMap;
import java.util.List;
import java.util.Map;
import java.util.NoSuchElementException;
import java.util.Set;
import java.util.function.ToIntFunction;

/**
 * The document once more, told slowly and in another way than the class does it: trees of functions for the laws,
 * all ways worked out anew for each call, SWAPS by walking from way to way. RandomTest holds the two against each other.
 */
final class Oracle {
    private static final Set<String> RESERVED = Set.of("house", "wall", "family", "loud", "ears", "coins", "like",
        "hate", "owes", "apart", "beside", "noise", "joy", "hedge", "draw", "swap", "lend", "pay", "plain", "fiddler",
        "sleeper", "lawyer", "not", "and", "or");
    private static final List<String> KINDS = List.of("plain", "fiddler", "sleeper", "lawyer");

    private static final class Fault extends RuntimeException {
        private static final long serialVersionUID = 1;
        final int code;

        Fault(int kind, Token at) {
            this.code = kind + 16 * at.place;
        }
    }

    private record Token(String text, int place, char sort) { } // sort: w, n, s, x (none), e (the end)

    private record Family(String name, int kind, int loud, int ears, int coins) { }

    private record Line(String act, int first, int second, int amount) { }

    private record Tale(int one, int other, boolean were) { }

    private static final class Land {
        final List<String> houses = new ArrayList<>();
        final List<Family> families = new ArrayList<>();
        final Map<String, Integer> walls = new HashMap<>(); // "0-3", both ways
        final Map<String, Integer> likes = new HashMap<>();
        final Map<String, Integer> hates = new HashMap<>();
        final Map<String, Integer> debts = new HashMap<>();
        final List<int[]> aparts = new ArrayList<>();
        final List<int[]> besides = new ArrayList<>();
        final Map<String, ToIntFunction<Map<String, Integer>>> laws = new HashMap<>();
    }

    private static final class Life {
        int[] home = new int[0];
        int[] coins = new int[0];
        int[][] debts = new int[0][0];
        int draws;
        int lapsed;

        Life copy() {
            Life c = new Life();
            c.home = home.clone();
            c.coins = coins.clone();
            c.debts = new int[debts.length][];
            for (int i = 0; i < debts.length; i++) {
                c.debts[i] = debts[i].clone();
            }
            c.draws = draws;
            c.lapsed = lapsed;
            return c;
        }
    }

    private final StringBuilder tape = new StringBuilder();
    private Land land = new Land();
    private List<Line> plan = new ArrayList<>();
    private Life now = new Life();
    private final Deque<Life> past = new ArrayDeque<>();
    private List<Tale> tales = new ArrayList<>();
    private final Life[] markedLife = new Life[4];
    private final List<List<Tale>> markedTales = new ArrayList<>(Arrays.asList(null, null, null, null));
    private long g;

    // ---- reading

    private List<Token> tokens = new ArrayList<>();
    private int at;

    private static List<Token> cut(String text) {
        List<Token> found = new ArrayList<>();
        int i = 0;
        while (i < text.length()) {
            String rest = text.substring(i);
            char c = rest.charAt(0);
            int size = 1;
            char sort = 'x';
            if (c == ' ' || c == '\n') {
                i++;
                continue;
            } else if (c >= 'a' && c <= 'z') {
                size = rest.length() - rest.replaceFirst("^[a-z]+", "").length();
                sort = size <= 8 ? 'w' : 'x';
            } else if (c >= '0' && c <= '9') {
                size = rest.length() - rest.replaceFirst("^[0-9]+", "").length();
                sort = size <= 4 ? 'n' : 'x';
            } else if ("()<=+-*;".indexOf(c) >= 0) {
                sort = 's';
            }
            found.add(new Token(rest.substring(0, size), i, sort));
            i += size;
        }
        found.add(new Token("", text.length(), 'e'));
        return found;
    }

    private Token here() {
        return tokens.get(at);
    }

    private boolean isHere(String text) {
        return (here().sort == 'w' || here().sort == 's') && here().text.equals(text);
    }

    private void expect(String text) {
        if (!isHere(text)) {
            throw new Fault(1, here());
        }
        at++;
    }

    private int number(int low, int high) {
        if (here().sort != 'n') {
            throw new Fault(1, here());
        }
        int n = Integer.parseInt(here().text);
        if (n < low || n > high) {
            throw new Fault(4, here());
        }
        at++;
        return n;
    }

    private String name() {
        if (here().sort != 'w' || RESERVED.contains(here().text)) {
            throw new Fault(1, here());
        }
        return here().text;
    }

    private String newName(Land l) {
        String name = name();
        if (l.houses.contains(name) || familyNumber(l, name) >= 0) {
            throw new Fault(3, here());
        }
        at++;
        return name;
    }

    private static int familyNumber(Land l, String name) {
        for (int i = 0; i < l.families.size(); i++) {
            if (l.families.get(i).name.equals(name)) {
                return i;
            }
        }
        return -1;
    }

    private int[] two(Land l, boolean houses, Map<String, Integer> told) {
        int[] two = new int[2];
        for (int i = 0; i < 2; i++) {
            String name = name();
            two[i] = houses ? l.houses.indexOf(name) : familyNumber(l, name);
            if (two[i] < 0) {
                throw new Fault(2, here());
            }
            if (i == 1 && (two[0] == two[1] || told != null && told.containsKey(two[0] + "-" + two[1]))) {
                throw new Fault(3, here());
            }
            at++;
        }
        return two;
    }

    private Land readTown(String text) {
        tokens = cut(text);
        at = 0;
        Land l = new Land();
        while (here().sort != 'e') {
            Token first = here();
            String word = first.sort == 'w' ? first.text : "";
            at++;
            switch (word) {
                case "house" -> {
                    if (l.houses.size() == 6) {
                        throw new Fault(5, first);
                    }
                    l.houses.add(newName(l));
                }
                case "wall" -> {
                    int[] t = two(l, true, l.walls);
                    int n = number(1, 9);
                    l.walls.put(t[0] + "-" + t[1], n);
                    l.walls.put(t[1] + "-" + t[0], n);
                }
                case "family" -> {
                    if (l.families.size() >= l.houses.size()) {
                        throw new Fault(5, first);
                    }
                    String name = newName(l);
                    int kind = here().sort == 'w' ? KINDS.indexOf(here().text) : -1;
                    if (kind < 0) {
                        throw new Fault(1, here());
                    }
                    at++;
                    expect("loud");
                    int loud = number(0, 9);
                    expect("ears");
                    int ears = number(0, 9);
                    expect("coins");
                    l.families.add(new Family(name, kind, loud, ears, number(0, 999)));
                }
                case "like", "hate", "owes" -> {
                    Map<String, Integer> m = word.equals("like") ? l.likes : word.equals("hate") ? l.hates : l.debts;
                    int[] t = two(l, false, m);
                    m.put(t[0] + "-" + t[1], number(1, word.equals("owes") ? 99 : 9));
                }
                case "apart", "beside" -> {
                    List<int[]> m = word.equals("apart") ? l.aparts : l.besides;
                    if (m.size() == 4) {
                        throw new Fault(5, first);
                    }
                    m.add(two(l, false, null));
                }
                case "noise", "joy", "hedge" -> {
                    if (l.laws.containsKey(word)) {
                        throw new Fault(3, first);
                    }
                    l.laws.put(word, chain(facts(word), 0));
                }
                default -> throw new Fault(1, first);
            }
            expect(";");
        }
        if (!l.laws.containsKey("noise")) {
            l.laws.put("noise", m -> m.get("loudness") + m.get("hearing") - m.get("brick"));
        }
        if (!l.laws.containsKey("joy")) {
            l.laws.put("joy", m -> m.get("fond") - m.get("felt"));
        }
        if (!l.laws.containsKey("hedge")) {
            l.laws.put("hedge", m -> m.get("his") * 2 - m.get("mine") + m.get("fond"));
        }
        return l;
    }

    private static Set<String> facts(String law) {
        return law.equals("noise") ? Set.of("loudness", "hearing", "brick")
            : law.equals("joy") ? Set.of("fond", "felt", "near") : Set.of("mine", "his", "fond");
    }

    private ToIntFunction<Map<String, Integer>> chain(Set<String> facts, int within) {
        ToIntFunction<Map<String, Integer>> left = test(facts, within);
        while (isHere("and") || isHere("or")) {
            boolean and = isHere("and");
            at++;
            ToIntFunction<Map<String, Integer>> a = left;
            ToIntFunction<Map<String, Integer>> b = test(facts, within);
            left = and ? m -> a.applyAsInt(m) != 0 && b.applyAsInt(m) != 0 ? 1 : 0
                : m -> a.applyAsInt(m) != 0 || b.applyAsInt(m) != 0 ? 1 : 0;
        }
        return left;
    }

    private ToIntFunction<Map<String, Integer>> test(Set<String> facts, int within) {
        ToIntFunction<Map<String, Integer>> a = sum(facts, within);
        if (isHere("<")) {
            at++;
            ToIntFunction<Map<String, Integer>> b = sum(facts, within);
            return m -> a.applyAsInt(m) < b.applyAsInt(m) ? 1 : 0;
        }
        if (isHere("=")) {
            at++;
            ToIntFunction<Map<String, Integer>> b = sum(facts, within);
            return m -> a.applyAsInt(m) == b.applyAsInt(m) ? 1 : 0;
        }
        return a;
    }

    private ToIntFunction<Map<String, Integer>> sum(Set<String> facts, int within) {
        ToIntFunction<Map<String, Integer>> left = product(facts, within);
        while (isHere("+") || isHere("-")) {
            int way = isHere("+") ? 1 : -1;
            at++;
            ToIntFunction<Map<String, Integer>> a = left;
            ToIntFunction<Map<String, Integer>> b = product(facts, within);
            left = m -> a.applyAsInt(m) + way * b.applyAsInt(m);
        }
        return left;
    }

    private ToIntFunction<Map<String, Integer>> product(Set<String> facts, int within) {
        ToIntFunction<Map<String, Integer>> left = part(facts, within);
        while (isHere("*")) {
            at++;
            ToIntFunction<Map<String, Integer>> a = left;
            ToIntFunction<Map<String, Integer>> b = part(facts, within);
            left = m -> a.applyAsInt(m) * b.applyAsInt(m);
        }
        return left;
    }

    private ToIntFunction<Map<String, Integer>> part(Set<String> facts, int within) {
        Token t = here();
        boolean fact = t.sort == 'w' && facts.contains(t.text);
        if (t.sort != 'n' && !fact && !isHere("not") && !isHere("(")) {
            throw new Fault(1, t);
        }
        if (within == 5) {
            throw new Fault(5, t);
        }
        at++;
        if (t.sort == 'n') {
            int n = Integer.parseInt(t.text);
            return m -> n;
        }
        if (fact) {
            return m -> m.get(t.text);
        }
        if (t.text.equals("not")) {
            ToIntFunction<Map<String, Integer>> a = part(facts, within + 1);
            return m -> a.applyAsInt(m) == 0 ? 1 : 0;
        }
        ToIntFunction<Map<String, Integer>> a = chain(facts, within + 1);
        expect(")");
        return a;
    }

    private List<Line> readDays(String text) {
        tokens = cut(text);
        at = 0;
        List<Line> lines = new ArrayList<>();
        while (here().sort != 'e') {
            Token first = here();
            if (first.sort != 'w' || !Set.of("draw", "swap", "lend", "pay").contains(first.text)) {
                throw new Fault(1, first);
            }
            if (lines.size() == 24) {
                throw new Fault(5, first);
            }
            at++;
            if (first.text.equals("draw")) {
                lines.add(new Line("draw", 0, 0, number(0, 9999)));
            } else {
                int[] t = two(land, false, null);
                lines.add(new Line(first.text, t[0], t[1], first.text.equals("swap") ? 0 : number(1, 999)));
            }
            expect(";");
        }
        return lines;
    }

    int feed(long a, long b, long c) {
        for (long word : new long[] {a, b, c}) {
            for (byte one : java.nio.ByteBuffer.allocate(8).putLong(word).array()) {
                if ((one == 10 || one >= 32 && one <= 126) && tape.length() < 1000) {
                    tape.append((char) one);
                }
            }
        }
        return tape.length();
    }

    int town() {
        String text = tape.toString();
        tape.setLength(0);
        try {
            land = readTown(text);
        } catch (Fault f) {
            return f.code;
        }
        now = atBegin();
        plan = new ArrayList<>();
        past.clear();
        tales = new ArrayList<>();
        Arrays.fill(markedLife, null);
        return 0;
    }

    int days() {
        String text = tape.toString();
        tape.setLength(0);
        try {
            plan = readDays(text);
        } catch (Fault f) {
            return f.code;
        }
        return 0;
    }

    private Life atBegin() {
        int n = families();
        Life life = new Life();
        life.home = new int[n];
        life.coins = new int[n];
        life.debts = new int[n][n];
        for (int i = 0; i < n; i++) {
            life.home[i] = i;
            life.coins[i] = land.families.get(i).coins;
            for (int j = 0; j < n; j++) {
                life.debts[i][j] = land.debts.getOrDefault(i + "-" + j, 0);
            }
        }
        return life;
    }

    // ---- what is so

    int families() {
        return land.families.size();
    }

    private int houses() {
        return land.houses.size();
    }

    private boolean ok(int f) {
        return f >= 0 && f < families();
    }

    private boolean ok(int f, int o) {
        return ok(f) && ok(o) && f != o;
    }

    private int thick(int[] home, int f, int o) {
        return land.walls.getOrDefault(home[f] + "-" + home[o], 0);
    }

    private int loud(int f) {
        return land.families.get(f).loud * (land.families.get(f).kind == 1 ? 2 : 1);
    }

    private int hears(int f) {
        return land.families.get(f).kind == 2 ? 0 : land.families.get(f).ears;
    }

    private static int clamp(int v, int low, int high) {
        return v < low ? low : v > high ? high : v;
    }

    private int felt(int[] home, int f) {
        int all = 0;
        for (int o = 0; o < families(); o++) {
            if (thick(home, f, o) > 0) {
                all += clamp(land.laws.get("noise").applyAsInt(
                    Map.of("loudness", loud(o), "hearing", hears(f), "brick", thick(home, f, o))), 0, 99);
            }
        }
        return all;
    }

    private int fond(int f, int o) {
        return land.likes.getOrDefault(f + "-" + o, 0) - land.hates.getOrDefault(f + "-" + o, 0);
    }

    private int joyBy(int[] home, int f) {
        int fond = 0;
        int near = 0;
        for (int o = 0; o < families(); o++) {
            if (thick(home, f, o) > 0) {
                fond += fond(f, o);
                near++;
            }
        }
        return clamp(land.laws.get("joy").applyAsInt(Map.of("fond", fond, "felt", felt(home, f), "near", near)),
            -999, 999);
    }

    private int content(int[] home) {
        int n = 0;
        for (int f = 0; f < families(); f++) {
            n += joyBy(home, f) >= 0 ? 1 : 0;
        }
        return n;
    }

    private int brokenBy(int[] home) {
        int bits = 0;
        for (int i = 0; i < land.aparts.size(); i++) {
            bits |= thick(home, land.aparts.get(i)[0], land.aparts.get(i)[1]) > 0 ? 1 << i : 0;
        }
        for (int i = 0; i < land.besides.size(); i++) {
            bits |= thick(home, land.besides.get(i)[0], land.besides.get(i)[1]) > 0 ? 0 : 16 << i;
        }
        return bits;
    }

    private List<int[]> ways() {
        List<int[]> all = new ArrayList<>();
        all.add(new int[0]);
        for (int f = 0; f < families(); f++) {
            List<int[]> longer = new ArrayList<>();
            for (int[] row : all) {
                for (int h = 0; h < houses(); h++) {
                    int house = h;
                    if (Arrays.stream(row).noneMatch(r -> r == house)) {
                        int[] next = Arrays.copyOf(row, f + 1);
                        next[f] = h;
                        longer.add(next);
                    }
                }
            }
            all = longer;
        }
        return all;
    }

    /** From now on to every way, by walking: each step two change houses, or one goes to an empty one. */
    private Map<String, Integer> steps() {
        Map<String, Integer> far = new HashMap<>();
        Deque<int[]> open = new ArrayDeque<>();
        far.put(Arrays.toString(now.home), 0);
        open.add(now.home);
        while (!open.isEmpty()) {
            int[] row = open.poll();
            int d = far.get(Arrays.toString(row));
            for (int f = 0; f < families(); f++) {
                for (int h = 0; h < houses(); h++) {
                    int[] next = row.clone();
                    for (int o = 0; o < families(); o++) {
                        if (row[o] == h) {
                            next[o] = row[f];
                        }
                    }
                    next[f] = h;
                    if (far.putIfAbsent(Arrays.toString(next), d + 1) == null) {
                        open.add(next);
                    }
                }
            }
        }
        return far;
    }

    private int below(int m) {
        g = Math.floorMod(g * 1103515245L + 12345L, 2147483648L);
        return (int) ((g >> 16) % m);
    }

    private int drawIn(Life life) {
        int gone = 0;
        for (int f = 0; f < families(); f++) {
            for (int o = 0; o < families(); o++) {
                if (thick(life.home, f, o) > 0 && land.families.get(o).kind != 3) {
                    gone += life.debts[f][o];
                    life.debts[f][o] = 0;
                }
            }
        }
        List<Integer> row = new ArrayList<>();
        for (int h = 0; h < houses(); h++) {
            row.add(h);
        }
        for (int i = houses() - 1; i >= 1; i--) {
            java.util.Collections.swap(row, i, below(i + 1));
        }
        for (int f = 0; f < families(); f++) {
            life.home[f] = row.get(f);
        }
        life.draws++;
        life.lapsed += gone;
        return gone;
    }

    private void swapIn(Life life, int f, int o) {
        int h = life.home[f];
        life.home[f] = life.home[o];
        life.home[o] = h;
    }

    private boolean lendIn(Life life, int f, int o, int n) {
        if (thick(life.home, f, o) == 0 || life.coins[f] < n) {
            return false;
        }
        life.coins[f] -= n;
        life.coins[o] += n;
        life.debts[o][f] += n;
        return true;
    }

    private boolean payIn(Life life, int f, int o, int n) {
        if (life.debts[f][o] < n || life.coins[f] < n) {
            return false;
        }
        life.coins[f] -= n;
        life.coins[o] += n;
        life.debts[f][o] -= n;
        return true;
    }

    private void keep(Life before) {
        past.push(before);
        if (past.size() > 16) {
            past.removeLast();
        }
    }

    // ---- the calls

    int house(int h) {
        for (int f = 0; f < families(); f++) {
            if (now.home[f] == h) {
                return f;
            }
        }
        return -1;
    }

    int wall(int a, int b) {
        return land.walls.getOrDefault(a + "-" + b, -1);
    }

    int family(int f, int what) {
        if (!ok(f)) {
            return -1;
        }
        int bits = 0;
        for (int o = 0; o < families(); o++) {
            bits += thick(now.home, f, o) > 0 ? 1 << o : 0;
        }
        return switch (what) {
            case 0 -> land.families.get(f).kind;
            case 1 -> loud(f);
            case 2 -> hears(f);
            case 3 -> now.coins[f];
            case 4 -> now.home[f];
            case 5 -> bits;
            case 6 -> felt(now.home, f);
            case 7 -> joyBy(now.home, f) >= 0 ? 1 : 0;
            default -> -1;
        };
    }

    int joy(int f) {
        if (!ok(f)) {
            throw new NoSuchElementException();
        }
        return joyBy(now.home, f);
    }

    int owes(int f, int o) {
        return ok(f, o) ? now.debts[f][o] : -1;
    }

    int draw(int seed) {
        if (seed < 0 || seed > 9999) {
            return -1;
        }
        keep(now.copy());
        g = seed;
        return drawIn(now);
    }

    boolean swap(int f, int o) {
        if (!ok(f, o)) {
            return false;
        }
        keep(now.copy());
        swapIn(now, f, o);
        return true;
    }

    boolean lend(int f, int o, int n) {
        Life before = now.copy();
        if (!ok(f, o) || n < 1 || n > 999 || !lendIn(now, f, o, n)) {
            return false;
        }
        keep(before);
        return true;
    }

    boolean pay(int f, int o, int n) {
        Life before = now.copy();
        if (!ok(f, o) || n < 1 || n > 999 || !payIn(now, f, o, n)) {
            return false;
        }
        keep(before);
        return true;
    }

    boolean undo() {
        if (past.isEmpty()) {
            return false;
        }
        now = past.pop();
        return true;
    }

    int judged(int what) {
        if (what < 0 || what > 2) {
            return -2;
        }
        Life life = atBegin();
        int[] answer = {-1, -1, 0};
        for (int i = 0; i < plan.size(); i++) {
            Line l = plan.get(i);
            boolean can = true;
            switch (l.act) {
                case "draw" -> {
                    g = l.amount;
                    answer[2] += drawIn(life);
                }
                case "swap" -> swapIn(life, l.first, l.second);
                case "lend" -> can = lendIn(life, l.first, l.second, l.amount);
                default -> can = payIn(life, l.first, l.second, l.amount);
            }
            if (!can && answer[0] < 0) {
                answer[0] = i;
            }
            if (brokenBy(life.home) != 0 && answer[1] < 0) {
                answer[1] = i;
            }
        }
        return answer[what];
    }

    int broken() {
        return brokenBy(now.home);
    }

    int odds(int f, int o) {
        if (!ok(f, o)) {
            return -1;
        }
        List<int[]> ways = ways();
        long good = ways.stream().filter(w -> thick(w, f, o) > 0).count();
        return (int) (good * 1000000 / ways.size());
    }

    int peace(int f, int most) {
        if (!ok(f) || most < 0 || most > 999) {
            return -1;
        }
        List<int[]> ways = ways();
        long good = ways.stream().filter(w -> felt(w, f) <= most).count();
        return (int) (good * 1000000 / ways.size());
    }

    int hope(int f) {
        if (!ok(f)) {
            throw new NoSuchElementException();
        }
        List<int[]> ways = ways();
        long sum = ways.stream().mapToLong(w -> joyBy(w, f)).sum();
        return (int) (sum * 1000 / ways.size());
    }

    int mend(int f) {
        if (f != -1 && !ok(f)) {
            return -2;
        }
        Map<String, Integer> far = steps();
        int[] best = null;
        int least = 99;
        for (int[] w : ways()) {
            int d = far.get(Arrays.toString(w));
            if (brokenBy(w) == 0 && d < least) {
                best = w;
                least = d;
            }
        }
        return best == null ? -2 : f == -1 ? least : best[f];
    }

    int please(int what) {
        if (what < 0 || what > 1 && !ok(what - 2)) {
            return -1;
        }
        Map<String, Integer> far = steps();
        int[] best = null;
        int rank = 0;
        for (int[] w : ways()) {
            int r = content(w) * 100 - far.get(Arrays.toString(w));
            if (best == null || r > rank) {
                best = w;
                rank = r;
            }
        }
        return what == 0 ? content(best) : what == 1 ? far.get(Arrays.toString(best)) : best[what - 2];
    }

    int quiet(int f) {
        if (f != -1 && !ok(f)) {
            return -2;
        }
        int[] best = null;
        int least = 0;
        for (int[] w : ways()) {
            int all = 0;
            for (int o = 0; o < families(); o++) {
                all += felt(w, o);
            }
            if (best == null || all < least) {
                best = w;
                least = all;
            }
        }
        return f == -1 ? least : best[f];
    }

    private int gets(int f, int o, int mine, int his) {
        return clamp(land.laws.get("hedge").applyAsInt(Map.of("mine", mine, "his", his, "fond", fond(f, o))), -99, 99);
    }

    int rests(int f, int o, int what) {
        if (!ok(f, o) || thick(now.home, f, o) == 0) {
            throw new NoSuchElementException();
        }
        List<Integer> found = new ArrayList<>();
        for (int a = 0; a < 2; a++) {
            for (int b = 0; b < 2; b++) {
                if (gets(f, o, 1 - a, b) <= gets(f, o, a, b) && gets(o, f, 1 - b, a) <= gets(o, f, b, a)) {
                    found.add(2 * a + b);
                }
            }
        }
        if (what < -1 || what >= found.size()) {
            throw new NoSuchElementException();
        }
        return what == -1 ? found.size() : found.get(what);
    }

    boolean tale(int f, int o, boolean were) {
        if (!ok(f, o) || tales.size() == 10) {
            return false;
        }
        tales.add(new Tale(f, o, were));
        return true;
    }

    private List<int[]> told() {
        return ways().stream().filter(w -> tales.stream()
            .allMatch(t -> thick(w, t.one, t.other) > 0 == t.were)).toList();
    }

    int how() {
        return told().size();
    }

    int were(int f, int o) {
        if (!ok(f, o) || told().isEmpty()) {
            return -1;
        }
        boolean in = told().stream().anyMatch(w -> thick(w, f, o) > 0);
        boolean out = told().stream().anyMatch(w -> thick(w, f, o) == 0);
        return in && out ? 2 : in ? 1 : 0;
    }

    int ask() {
        List<int[]> all = told();
        int best = -1;
        int least = all.size();
        for (int code = 0; code < 36; code++) {
            int a = code / 6;
            int b = code % 6;
            if (a < b && ok(a, b)) {
                int in = (int) all.stream().filter(w -> thick(w, a, b) > 0).count();
                int greater = in > all.size() - in ? in : all.size() - in;
                if (greater < least) {
                    least = greater;
                    best = code;
                }
            }
        }
        return best;
    }

    int gains(int f) {
        if (!ok(f)) {
            throw new NoSuchElementException();
        }
        int gain = 0;
        for (int o = 0; o < families(); o++) {
            if (thick(now.home, f, o) > 0) {
                gain += land.families.get(o).kind == 3 ? 0 : now.debts[f][o];
                gain -= land.families.get(f).kind == 3 ? 0 : now.debts[o][f];
            }
        }
        return gain;
    }

    int tampered(int f, int o, int draws, int times) {
        if (!ok(f, o) || draws < 1 || draws > 6 || times < 0 || times > draws) {
            return -1;
        }
        List<int[]> ways = ways();
        java.math.BigInteger in = java.math.BigInteger.valueOf(ways.stream().filter(w -> thick(w, f, o) > 0).count());
        java.math.BigInteger all = java.math.BigInteger.valueOf(ways.size());
        java.math.BigInteger sum = java.math.BigInteger.ZERO;
        for (int bits = 0; bits < 1 << draws; bits++) {
            int hits = Integer.bitCount(bits);
            if (hits >= times) {
                sum = sum.add(in.pow(hits).multiply(all.subtract(in).pow(draws - hits)));
            }
        }
        return sum.multiply(java.math.BigInteger.valueOf(1000000)).divide(all.pow(draws)).intValueExact();
    }

    int centuries(int seed, int draws, int what) {
        if (seed < 0 || seed > 9999 || draws < 1 || draws > 60 || what < 0 || what > 2) {
            return -1;
        }
        Life life = now.copy();
        g = seed;
        int[] answer = new int[3];
        int n = families();
        for (int t = 0; t < draws; t++) {
            if (n >= 2) {
                int a = below(n);
                int b = below(n);
                if (a != b) {
                    lendIn(life, a, b, 1);
                }
                if (below(10) == 0) {
                    int c = below(n);
                    int d = below(n);
                    if (c != d) {
                        swapIn(life, c, d);
                    }
                }
            }
            answer[2] += drawIn(life);
            answer[0] += content(life.home);
            answer[1] += Integer.bitCount(brokenBy(life.home));
        }
        return answer[what];
    }

    boolean mark(int m, boolean back) {
        if (m < 0 || m > 3 || back && markedLife[m] == null) {
            return false;
        }
        if (back) {
            now = markedLife[m].copy();
            tales = new ArrayList<>(markedTales.get(m));
            past.clear();
        } else {
            markedLife[m] = now.copy();
            markedTales.set(m, new ArrayList<>(tales));
        }
        return true;
    }

    int count(int what) {
        return switch (what) {
            case 0 -> houses();
            case 1 -> families();
            case 2 -> land.walls.size() / 2;
            case 3 -> land.aparts.size();
            case 4 -> land.besides.size();
            case 5 -> now.draws;
            case 6 -> now.lapsed;
            case 7 -> Arrays.stream(now.coins).sum();
            case 8 -> Arrays.stream(now.debts).flatMapToInt(Arrays::stream).sum();
            case 9 -> plan.size();
            case 10 -> tales.size();
            case 11 -> past.size();
            case 12 -> tape.length();
            default -> -1;
        };
    }
}
