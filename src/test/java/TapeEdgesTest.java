/** The edges of the TAPE and of TOKENS: a test for each sentence of the document that names one, under its words. */
public final class TapeEdgesTest {
    private static final long BLANKS = 0x2020202020202020L;

    public static void main(String[] args) {
        whichSigns();
        placesOfSigns();
        lessThanFull();
        exactlyFull();
        oneTooMany();
        cutWithinACall();
        full();
        aFullTapeIsRead();
        takenByTown();
        takenByDays();
        nothingBehindTheEnd();
        numberAtTheVeryEnd();
        asLongAsCanBe();
        blanksWhereOneLikes();
        noBlanks();
        otherBlanks();
        longestWord();
        lettersOfWords();
        longestNumber();
        digitsOfNumbers();
        letterBehindNumber();
        allElse();
        Check.end();
    }

    /** "others than 10 and 32 .. 126, and what is beyond 1,000, are left out" */
    private static void whichSigns() {
        for (int sign = 0; sign < 256; sign++) {
            WallLottery x = new WallLottery();
            boolean fits = sign == 10 || sign >= 32 && sign <= 126;
            Check.due("sign " + sign, x.feed((long) sign << 56, 0, 0), fits ? 1 : 0);
            Check.due("count of sign " + sign, x.count(12), fits ? 1 : 0);
            Check.due("sign " + sign + " in all bytes", x.feed(0x0101010101010101L * sign, 0, 0), fits ? 9 : 0);
        }
    }

    /** "Up to 24 signs come behind the TAPE: the bytes of a, b, c, of each the highest first" */
    private static void placesOfSigns() {
        for (int place = 0; place < 24; place++) {
            // a sign that is no token among blanks: the FAULT tells where it has come to stand
            String text = " ".repeat(place) + "?" + " ".repeat(23 - place);
            WallLottery x = new WallLottery();
            Check.due("24 signs", x.feed(Check.eight(text, 0), Check.eight(text, 8), Check.eight(text, 16)), 24);
            Check.due("? in place " + place, x.town(), 1 + 16 * place);
            Check.due("one of 24", x.feed(0, 0, 0) + x.feed(place < 8 ? (long) '?' << 56 - 8 * place : 0,
                place >= 8 && place < 16 ? (long) '?' << 120 - 8 * place : 0,
                place >= 16 ? (long) '?' << 184 - 8 * place : 0), 1);
        }
        WallLottery x = new WallLottery();
        Check.due("what is left out leaves no gap", x.feed('h', (long) 'o' << 56, (long) 'u' << 24), 3);
        Check.due("and comes behind", x.feed(Check.eight("\0s\0e\0 q;", 0), 0, 0), 8);
        Check.due("in this order", x.town(), 0);
        Check.due("a house", x.count(0), 1);
    }

    /** "The TAPE has at most 1,000 signs": one less */
    private static void lessThanFull() {
        WallLottery x = blank(999);
        Check.due("999", x.count(12), 999);
        Check.due("one goes onto it yet", x.feed('x', 0, 0), 1000);
        Check.due("and it is the last one", x.town(), 1 + 16 * 999);
    }

    /** "The TAPE has at most 1,000 signs": as many */
    private static void exactlyFull() {
        WallLottery x = blank(992);
        Check.due("1,000", x.feed(Check.eight("house a;", 0), 0, 0), 1000);
        Check.due("a town in 1,000 signs", x.town(), 0);
        Check.due("its house", x.count(0), 1);
    }

    /** "what is beyond 1,000, are left out": one more */
    private static void oneTooMany() {
        WallLottery x = blank(993);
        Check.due("1,000 of 1,001", x.feed(Check.eight("house a;", 0), 0, 0), 1000);
        Check.due("the ; is left out", x.town(), 1 + 16 * 1000);
    }

    /** "what is beyond 1,000, are left out: how many there are": within one call, in each of its bytes */
    private static void cutWithinACall() {
        for (int room = 0; room <= 24; room++) {
            WallLottery x = blank(1000 - room);
            Check.due("room for " + room, x.feed(0x7878787878787878L, 0x7878787878787878L, 0x7878787878787878L), 1000);
            Check.due("the word begins behind the blanks", x.town(), room == 0 ? 0 : 1 + 16 * (1000 - room));
        }
    }

    /** "The TAPE has at most 1,000 signs": when it is full nothing changes it but a reader */
    private static void full() {
        WallLottery x = blank(1000);
        Check.due("full", x.feed(Check.eight("????????", 0), -1, 0), 1000);
        Check.due("full still", x.feed(0, 0, 0), 1000);
        Check.due("blanks alone are read", x.town(), 0);
        Check.due("and there is room again", x.feed('a', 0, 0), 1);
    }

    /** "what reads it takes it: it is empty then": a full one, as DAYS */
    private static void aFullTapeIsRead() {
        WallLottery x = blank(992);
        x.feed(Check.eight(" draw 1;", 0), 0, 0);
        Check.due("days in 1,000 signs", x.days(), 0);
        Check.due("one line", x.count(9), 1);
        Check.due("empty", x.count(12), 0);
    }

    private static WallLottery blank(int many) {
        WallLottery x = new WallLottery();
        for (int i = 0; i < many / 24; i++) {
            x.feed(BLANKS, BLANKS, BLANKS);
        }
        for (int i = 0; i < many % 24; i++) {
            x.feed(' ', 0, 0);
        }
        Check.due("blanks", x.count(12), many);
        return x;
    }

    /** "what reads it takes it: it is empty then": town, without a FAULT and with one */
    private static void takenByTown() {
        WallLottery x = new WallLottery();
        Check.feed(x, "house a;");
        Check.due("right", x.town(), 0);
        Check.due("taken", x.count(12), 0);
        Check.due("an empty one is a town of nothing", x.town(), 0);
        Check.due("no house", x.count(0), 0);
        Check.feed(x, "house a;house");
        Check.due("wrong", x.town(), 1 + 16 * 13);
        Check.due("taken likewise", x.count(12), 0);
        Check.feed(x, "?");
        Check.due("the next text begins at 0", x.town(), 1);
    }

    /** "what reads it takes it: it is empty then": days, without a FAULT and with one */
    private static void takenByDays() {
        WallLottery x = new WallLottery();
        Check.feed(x, "draw 1;draw 2;");
        Check.due("right", x.days(), 0);
        Check.due("taken", x.count(12), 0);
        Check.feed(x, "draw 1;draw");
        Check.due("wrong", x.days(), 1 + 16 * 11);
        Check.due("taken likewise", x.count(12), 0);
        Check.due("the lines stay", x.count(9), 2);
        Check.due("an empty one is days without a line", x.days(), 0);
        Check.due("no line", x.count(9), 0);
    }

    /** "it is empty then": nothing of a longer text before is read behind the end of the next one */
    private static void nothingBehindTheEnd() {
        WallLottery x = new WallLottery();
        Check.feed(x, "draw 1234;");
        Check.due("a text", x.days(), 0);
        Check.feed(x, "draw 12");
        Check.due("a number ends with it", x.days(), 1 + 16 * 7);
        Check.feed(x, "house ab;");
        Check.due("another text", x.town(), 0);
        Check.feed(x, "house a");
        Check.due("a word ends with it", x.town(), 1 + 16 * 7);
        Check.feed(x, "house a;      ");
        Check.due("a text with blanks", x.town(), 0);
        Check.feed(x, "house a");
        Check.due("no sign of it stands behind", x.town(), 1 + 16 * 7);
        Check.feed(x, "    ");
        Check.feed(x, "house a ");
        Check.due("nor a blank", x.town(), 1 + 16 * 12);
    }

    /** "The TAPE has at most 1,000 signs": a WORD, a NUMBER, a blank that end with them */
    private static void numberAtTheVeryEnd() {
        String[] ends = {" draw 1", " draw 1234", " draw 1;draw", " draw 1 "};
        for (String end : ends) {
            WallLottery x = new WallLottery();
            Check.feed(x, " ".repeat(1000 - end.length()) + end);
            Check.due("1,000 signs", x.count(12), 1000);
            Check.due("ended by" + end, x.days(), 1 + 16 * 1000);
        }
    }

    /** "TOKENS, each as long as can be" */
    private static void asLongAsCanBe() {
        Check.townFault(1, "@housea;");
        Check.townFault(1, "house a;@walla b 1;");
        Check.townFault(4, "house a;house b;wall a b @12;");
        Check.townFault(1, "house a;house b;wall a b 1 @2;");
        Check.townFault(1, "house a;joy @notfond;");
        Check.townFault(1, "house a;joy fond @andfond;");
        Check.townFault(1, "house a;joy @fondor 1;");
        Check.due("12 is one number", Check.town(Check.houses(1) + Check.families(1, 0) + "joy 12;").joy(0), 12);
    }

    /** "blanks (10, 32) between where one likes" */
    private static void blanksWhereOneLikes() {
        String text = "  \n house \n\n a  ; family\nf\nplain loud\n1 ears  2\n \ncoins 3 ;joy ( not\n0 ) <\n1 ;\n \n";
        WallLottery x = Check.town(text);
        Check.due("loud", x.family(0, 1), 1);
        Check.due("ears", x.family(0, 2), 2);
        Check.due("coins", x.family(0, 3), 3);
        Check.due("joy", x.joy(0), 0);
        Check.days(x, "\n draw\n1\n;\n\ndraw 2 ; ");
        Check.due("lines", x.count(9), 2);
    }

    /** "blanks (10, 32) between where one likes": nowhere that signs or a NUMBER part the tokens */
    private static void noBlanks() {
        WallLottery x = Check.town("house a;house b;wall a b 1;family f plain loud 1ears 2coins 3;joy(1+2)*3<9or not(0);");
        Check.due("joy", x.joy(0), 1);
        Check.due("wall", x.wall(0, 1), 1);
    }

    /** "All else ... is none": other signs that are blank elsewhere are not on the TAPE at all */
    private static void otherBlanks() {
        WallLottery x = new WallLottery();
        Check.feed(x, "house\ta\r;\fhouse\013b;");
        Check.due("they part nothing", x.town(), 1);
        Check.feed(x, "hou\tse\r a;\f");
        Check.due("nor do they stand between letters", x.town(), 0);
    }

    /** "WORDS (letters a .. z, 8 at most)", "a longer WORD ..., too, at its first sign" */
    private static void longestWord() {
        WallLottery x = Check.town("house aaaaaaaa;house aaaaaaab;house baaaaaaa;house aaaaaaa;wall aaaaaaaa aaaaaaab 3;"
            + "wall aaaaaaa baaaaaaa 4;");
        Check.due("eight letters tell names apart", x.wall(0, 1), 3);
        Check.due("seven are not eight", x.wall(3, 2), 4);
        Check.townFault(1, "house @aaaaaaaaa;");
        Check.townFault(1, "house aaaaaaaa;wall @aaaaaaaaa aaaaaaaa 1;");
        Check.townFault(1, "house a;joy @loudnesss;");
        Check.townFault(1, "@househouse a;");
        // 13 letters more than fill 64 bits: the last ones alone must not make a word of it
        Check.townFault(1, "@abcdefghijklmnopqrstuvwxyzhouse a;");
        Check.townFault(1, "@aaaaaaaaaaaaahouse a;");
        Check.townFault(1, "house a;house b;wall a @aaaaaaaaaaaaaaaab 1;");
        Check.daysFault(1, "@drawdrawd 1;");
        Check.daysFault(1, "swap @ccccccccc dd;");
    }

    /** "WORDS (letters a .. z" */
    private static void lettersOfWords() {
        Check.due("a and z", Check.town("house az;house za;wall az za 2;").wall(1, 0), 2);
        for (char c : "`{AZ@[_".toCharArray()) {
            String text = "house a" + c + ";";
            WallLottery x = new WallLottery();
            Check.feed(x, text);
            Check.due(text, x.town(), 1 + 16 * 7);
            text = "house " + c + "a;";
            Check.feed(x, text);
            Check.due(text, x.town(), 1 + 16 * 6);
        }
        Check.townFault(1, "@House a;");
        Check.townFault(1, "@hOuse a;");
    }

    /** "NUMBERS (1 to 4 digits": one, four, five, and many digits */
    private static void longestNumber() {
        String land = Check.houses(1) + Check.families(1, 0);
        Check.due("one digit", Check.town(land + "joy 0;").joy(0), 0);
        Check.due("four digits", Check.town(land + "joy 9999 - 9000;").joy(0), 999);
        Check.due("zeros ahead", Check.town(land + "joy 0012;").joy(0), 12);
        Check.townFault(1, land + "joy @00012;");
        Check.townFault(1, land + "joy @10000;");
        Check.townFault(1, land + "joy @4294967297;");
        Check.townFault(1, land + "joy @18446744073709551617;");
        Check.townFault(1, "house a;family f plain loud @00001");
        Check.townFault(1, "house a;family f plain loud 1 ears 1 coins @00999");
        Check.daysFault(1, "draw @00000;");
        Check.daysFault(1, "lend cc dd @00001;");
    }

    /** "NUMBERS (1 to 4 digits": the signs beside 0 and 9 are none */
    private static void digitsOfNumbers() {
        String land = Check.houses(1) + Check.families(1, 0);
        Check.due("0 and 9", Check.town(land + "joy 90;").joy(0), 90);
        Check.townFault(1, land + "joy 1@/1;");
        Check.townFault(1, land + "joy 1@:1;");
        Check.townFault(1, land + "joy @/;");
        Check.townFault(1, land + "joy @:;");
    }

    /** "a letter may stand right behind" */
    private static void letterBehindNumber() {
        Check.due("a line", Check.town("house a;family f fiddler loud 3ears 0coins 9;").family(0, 1), 6);
        String land = Check.houses(1) + Check.families(1, 0);
        Check.due("and", Check.town(land + "joy 1and 2;").joy(0), 1);
        Check.due("four digits and a letter", Check.town(land + "joy 0000or 0;").joy(0), 0);
        Check.townFault(1, land + "joy 1@x;");
        // a digit right behind a letter begins another token, too
        Check.townFault(1, land + "joy fond@1;");
        Check.due("a word, then a number", Check.town("house a;house b;wall a b1;").wall(0, 1), 1);
    }

    /** "the signs ( ) < = + - * ;  All else (a longer WORD or NUMBER, too, at its first sign) is none." */
    private static void allElse() {
        // what is none stands for no sign, either, whichever sign was the last one
        Check.townFault(1, "house a;house b @abcdefghi house c;");
        Check.townFault(1, "house a;house b @12345 house c;");
        Check.townFault(1, "house a;joy (1) + (2 @abcdefghi;");
        Check.townFault(1, "house a;joy 1 + 2 @12345 3;");
        String land = Check.houses(1) + Check.families(1, 0);
        for (char c = 33; c <= 126; c++) {
            boolean sign = "()<=+-*;".indexOf(c) >= 0;
            boolean other = c >= 'a' && c <= 'z' || c >= '0' && c <= '9';
            String text = land + "joy 1" + c + "(1);";
            WallLottery x = new WallLottery();
            Check.feed(x, text);
            int got = x.town();
            if (sign && "<=+-*".indexOf(c) >= 0) {
                Check.due(text, got, 0);
            } else if (sign) {
                // ( ) and ; are tokens, but an E can't go on so
                Check.due(text, got, 1 + 16 * (land.length() + (c == ';' ? 6 : 5)));
            } else if (!other) {
                Check.due(text, got, 1 + 16 * (land.length() + 5));
            }
        }
    }
}
