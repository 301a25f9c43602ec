/** Promises 1 and 2: a new object, and feed. */
public final class FeedTest {
    public static void main(String[] args) {
        newObject();
        signs();
        limit();
        Check.end();
    }

    private static void newObject() {
        WallLottery x = new WallLottery();
        for (int what = 0; what <= 12; what++) {
            Check.due("new: count " + what, x.count(what), 0);
        }
        Check.due("new: house", x.house(0), -1);
        Check.due("new: broken", x.broken(), 0);
        Check.due("new: how", x.how(), 1);
        Check.due("new: undo", x.undo(), false);
        Check.due("new: mark", x.mark(0, true), false);
        Check.none("new: joy", () -> x.joy(0));
    }

    private static void signs() {
        WallLottery x = new WallLottery();
        Check.due("nothing", x.feed(0, 0, 0), 0);
        Check.due("all bits", x.feed(-1, -1, -1), 0);
        Check.due("10, 32, 126 stay; 9, 11, 31, 127, 128 do not", x.feed(0x0a20097e0b1f7f80L, 0, 0), 3);
        Check.due("the end of c counts", x.feed(0, 0, 'x'), 4);
        Check.due("count", x.count(12), 4);

        WallLottery order = new WallLottery();
        // the highest byte comes first, a ahead of b ahead of c; what is no sign leaves no gap
        order.feed(Check.eight("ho\0\1us\2e", 0), Check.eight("\0 a \t", 0), Check.eight(";\177", 0));
        Check.due("order", order.count(12), 9);
        Check.due("order: town", order.town(), 0);
        Check.due("order: houses", order.count(0), 1);
        Check.due("the tape is taken", order.count(12), 0);
    }

    private static void limit() {
        WallLottery x = new WallLottery();
        long blanks = 0x2020202020202020L;
        for (int i = 1; i <= 41; i++) {
            Check.due("feed " + i, x.feed(blanks, blanks, blanks), 24 * i);
        }
        Check.due("1,000 at most", x.feed(Check.eight("        ", 0), Check.eight("house aa", 0), blanks), 1000);
        Check.due("full", x.feed(blanks, blanks, blanks), 1000);
        Check.due("cut behind 1,000 signs", x.town(), 1 + 16 * 1000);

        WallLottery y = new WallLottery();
        for (int i = 0; i < 124; i++) {
            y.feed(blanks, 0, 0);
        }
        y.feed(Check.eight("house a;", 0), Check.eight("!", 0), 0);
        Check.due("the first 1,000 are kept", y.town(), 0);
        Check.due("houses", y.count(0), 1);
    }
}
