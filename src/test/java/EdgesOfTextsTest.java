/** The boundaries that the document names of texts (2): lines, tokens, numbers, faults and what the law tells. */
public final class EdgesOfTextsTest {
    private static final int NONE = SackedGlass.NONE;
    private static final Sentences S = new Sentences();
    private static final Checks C = S.checks;

    public static void main(String[] args) {
        S.says("TEXTS (empty at first)", EdgesOfTextsTest::emptyAtFirst);
        S.says("THE LAW = {(tell | err | blame) E [when B] ;}", EdgesOfTextsTest::lawLine);
        S.says("B = A {or A}. A = C {and C}", EdgesOfTextsTest::orAndAnd);
        S.says("C = E (< | = | >) E | not C | ( B )", EdgesOfTextsTest::tests);
        S.says("T = U {* U | / NUMBER}", EdgesOfTextsTest::products);
        S.says("for 1 .. 30 days", EdgesOfTextsTest::roundDays);
        S.says("GLASS so much up or down a day, 0 .. 40", EdgesOfTextsTest::roundMoves);
        S.says("one behind the other from DAY 0 on, behind the last one again the first", EdgesOfTextsTest::roundsAgain);
        S.says("empty: it stays", EdgesOfTextsTest::roundsEmpty);
        S.says("(DAY 0 .. 999; N 0 .. 99.)", EdgesOfTextsTest::agendaBounds);
        S.says("16 lines of each at most, of ROUNDS 12", EdgesOfTextsTest::mostLines);
        S.says("letters as many as stand together are KEYWORDS (those told here for that text) or none",
                EdgesOfTextsTest::keywords);
        S.says("digits as many as stand together NUMBERS of 1 to 4 digits or none", EdgesOfTextsTest::numbers);
        S.says("; + - * / ( ) < = > .", EdgesOfTextsTest::signs);
        S.says("Blanks (32, 10) between", EdgesOfTextsTest::blanks);
        S.says("Ints, which wrap", EdgesOfTextsTest::wraps);
        S.says("/ goes towards 0", EdgesOfTextsTest::towardsZero);
        S.says("FAULTS, the first by its place", EdgesOfTextsTest::firstFault);
        S.says("at one place the least", EdgesOfTextsTest::leastFault);
        S.says("1 what can't stand there", EdgesOfTextsTest::cannotStandThere);
        S.says("(the end: the text's length)", EdgesOfTextsTest::endOfText);
        S.says("2 (at the NUMBER) a part by 0", EdgesOfTextsTest::partByZero);
        S.says("one beyond its bounds", EdgesOfTextsTest::beyondBounds);
        S.says("a TELLER, a KIND that there is not", EdgesOfTextsTest::noSuchTellerOrKind);
        S.says("3 (at its KEYWORD) the 17th line of a text", EdgesOfTextsTest::seventeenthLine);
        S.says("the 13th one of ROUNDS", EdgesOfTextsTest::thirteenthLine);
        S.says("(at it) the 9th ( or not that is open", EdgesOfTextsTest::ninthOpen);
        S.says("E of the first line with that word whose B is so, or that has none", EdgesOfTextsTest::firstLine);
        S.says("(none: tell: kind, err: 100 times fear, blame: 3 times off)", EdgesOfTextsTest::noLine);
        S.says("tell held to 0 .. 4", EdgesOfTextsTest::tellHeld);
        S.says("err to 0 .. 1000", EdgesOfTextsTest::errHeld);
        S.says("blame to 0 .. 99", EdgesOfTextsTest::blameHeld);
        S.says("sort, fear, bribe, stand: its; glass: GLASS; kind: KIND of it; day: DAY", EdgesOfTextsTest::facts);
        S.says("minister: 1, if it is the MINISTER, else 0", EdgesOfTextsTest::minister);
        S.says("off: how far what it SAID is from KIND (tell, err: 0)", EdgesOfTextsTest::off);
        S.finish("EdgesOfTextsTest");
    }

    private static void emptyAtFirst() {
        SackedGlass x = Checks.court(0, 3);
        for (int w = 11; w <= 13; w++) C.due("lines: look(" + w + ")", x.look(w), 0);
        C.due("tell is kind", x.of(0, 7), 2);
        C.due("err is 100 times fear", x.of(0, 8), 300);
        C.due("GLASS stays", x.moves(0), 0);
        x.set(3, 0, 0);
        x.days(1);
        C.due("what came, who told it, who is named", x.look(9), 3);
    }

    private static void lawLine() {
        SackedGlass x = Checks.court(0, 0);
        C.sound(x, 0, "", 0);
        C.sound(x, 0, "tell 1;", 1);
        C.sound(x, 0, "err 1;", 1);
        C.sound(x, 0, "blame 1;", 1);
        C.sound(x, 0, "tell 1 when 1=1;", 1);
        C.faulty(x, 0, "tell;", 1, 4);
        C.faulty(x, 0, "tell 1 when;", 1, 11);
        C.faulty(x, 0, "tell when 1=1;", 1, 5);
        C.faulty(x, 0, "tell 1 1=1;", 1, 7);
        C.faulty(x, 0, "tell 1;;", 1, 7);
        C.faulty(x, 0, "when 1=1;", 1, 0);
    }

    /** Whether a condition is so. */
    private static void holds(String condition, boolean so) {
        SackedGlass x = Checks.court(3, 5);
        C.due("\"" + condition + "\" is read", Checks.text(x, 0, "err 1 when " + condition + ";"), 1);
        C.due("\"" + condition + "\" is so", x.of(0, 8) == 1, so);
    }

    private static void orAndAnd() {
        holds("1=1 or 1=2", true);
        holds("1=2 or 1=1", true);
        holds("1=2 or 1=2", false);
        holds("1=1 and 1=1", true);
        holds("1=1 and 1=2", false);
        holds("1=2 and 1=1", false);
        // "and" binds more than "or", on both sides.
        holds("1=1 or 1=1 and 1=2", true);
        holds("1=2 and 1=1 or 1=1", true);
        holds("1=2 and (1=1 or 1=1)", false);
        holds("1=2 or 1=2 or 1=2 or 1=1", true);
        holds("1=1 and 1=1 and 1=1 and 1=2", false);
        SackedGlass x = new SackedGlass();
        C.faulty(x, 0, "err 1 when 1=1 or;", 1, 17);
        C.faulty(x, 0, "err 1 when 1=1 and or 1=1;", 1, 19);
        C.faulty(x, 0, "err 1 when or 1=1;", 1, 11);
    }

    private static void tests() {
        holds("1<2", true);
        holds("2<2", false);
        holds("3<2", false);
        holds("1=2", false);
        holds("2=2", true);
        holds("3=2", false);
        holds("1>2", false);
        holds("2>2", false);
        holds("3>2", true);
        holds("not 1=2", true);
        holds("not 1<2", false);
        holds("not 2>1", false);
        holds("not 2<1", true);
        holds("not 1>2", true);
        holds("1<2 and 2>1 and 1=1", true);
        holds("2>1 and 1<2", true);
        holds("not not 1=2", false);
        holds("not 1=1 or 1=1", true);
        holds("not (1=1 or 1=1)", false);
        holds("0-1<0", true);
        SackedGlass x = new SackedGlass();
        C.faulty(x, 0, "err 1 when 1;", 1, 12);
        C.faulty(x, 0, "err 1 when ();", 1, 12);
        C.faulty(x, 0, "err 1 when (1)=1;", 1, 13);
        C.faulty(x, 0, "err 1 when 1=1=1;", 1, 14);
        C.faulty(x, 0, "err 1 when 1<=1;", 1, 13);
    }

    private static void products() {
        errIs("err 2*3*4;", 24);
        errIs("err 100/3/3;", 11);
        errIs("err 7/2*2;", 6);
        errIs("err 1+7/2-1;", 3);
        SackedGlass x = Checks.court(0, 0);
        C.faulty(x, 0, "err 7/fear;", 1, 6);
        C.faulty(x, 0, "err 7/;", 1, 6);
        C.faulty(x, 0, "err *7;", 1, 4);
        C.faulty(x, 0, "err 7**7;", 1, 6);
    }

    /** What err is by a law for a teller of SORT 3, FEAR 5, STAND -7. */
    private static void errIs(String law, int due) {
        SackedGlass x = Checks.court(3, 5);
        x.set(4, 0, -7);
        C.due("\"" + law + "\" is read", Checks.text(x, 0, law), 1);
        C.due("\"" + law + "\"", x.of(0, 8), due);
    }

    private static void roundDays() {
        SackedGlass x = new SackedGlass();
        C.sound(x, 1, "for 1 rise 1;for 30 rise 2;", 2);
        int[] days = {0, 1, 30, 31, 32};
        int[] moves = {1, 2, 2, 1, 2};
        for (int i = 0; i < days.length; i++) C.due("moves(" + days[i] + ")", x.moves(days[i]), moves[i]);
        C.faulty(x, 1, "for 0 rise 1;", 2, 4);
        C.faulty(x, 1, "for 31 rise 1;", 2, 4);
        C.due("rounds stay", x.look(12), 2);
    }

    private static void roundMoves() {
        SackedGlass x = new SackedGlass();
        C.sound(x, 1, "for 1 rise 0;for 1 fall 0;for 1 rise 40;for 1 fall 40;", 4);
        int[] moves = {0, 0, 40, -40};
        for (int d = 0; d < 4; d++) C.due("moves(" + d + ")", x.moves(d), moves[d]);
        C.faulty(x, 1, "for 1 rise 41;", 2, 11);
        C.faulty(x, 1, "for 1 fall 41;", 2, 11);
        C.faulty(x, 1, "for 1 rise -1;", 1, 11);
    }

    private static void roundsAgain() {
        SackedGlass x = new SackedGlass();
        C.sound(x, 1, "for 3 rise 1;for 2 fall 2;for 2 rise 3;", 3);
        int[] round = {1, 1, 1, -2, -2, 3, 3};
        for (int d = 0; d < 15; d++) C.due("moves(" + d + ")", x.moves(d), round[d % 7]);
        // 9999 is 1428 rounds of 7 days and 3 days more.
        C.due("moves(9999)", x.moves(9999), -2);
        C.due("moves(9998)", x.moves(9998), 1);
        x.days(5);
        // Told anew, rounds go from DAY 0 on, not from now.
        C.sound(x, 1, "for 4 rise 1;for 2 fall 5;", 2);
        int glass = x.look(2);
        x.days(1);
        C.due("DAY 5 has the sixth move", x.look(2), glass - 5);
        x.days(1);
        C.due("DAY 6 has the first one again", x.look(2), glass - 4);
    }

    private static void roundsEmpty() {
        SackedGlass x = new SackedGlass();
        C.sound(x, 1, "for 1 rise 9;", 1);
        C.sound(x, 1, "", 0);
        C.due("no lines", x.look(12), 0);
        C.due("moves(0)", x.moves(0), 0);
        C.due("moves(9999)", x.moves(9999), 0);
        x.days(60);
        C.due("GLASS", x.look(2), 50);
        C.due("ahead(99)", x.ahead(99), 2);
    }

    private static void agendaBounds() {
        SackedGlass x = Checks.court(0, 0);
        C.sound(x, 2, "on 0 tap;on 999 tap;on 0 bribe 0 0;on 999 bribe 0 99;", 4);
        x.days(1);
        C.due("on DAY 0", x.look(6), 1);
        for (int i = 0; i < 16; i++) x.days(60);
        x.days(38);
        C.due("DAY", x.look(1), 999);
        C.due("COIN ahead of DAY 999", x.look(6), 1);
        x.days(1);
        C.due("on DAY 999", x.look(6), 1 + 1 - 99);
        C.due("BRIBE", x.of(0, 2), 99);
        C.faulty(x, 2, "on 1000 tap;", 2, 3);
        C.faulty(x, 2, "on 9999 tap;", 2, 3);
        C.faulty(x, 2, "on 0 bribe 0 100;", 2, 13);
        C.due("the agenda stays", x.look(13), 4);
    }

    private static void mostLines() {
        SackedGlass x = Checks.court(0, 0);
        C.sound(x, 0, "err 1 when 1=2;".repeat(15) + "err 7;", 16);
        C.due("the 16th line counts", x.of(0, 8), 7);
        C.sound(x, 1, "for 1 rise 1;".repeat(11) + "for 1 rise 7;", 12);
        C.due("the 12th line counts", x.moves(11), 7);
        C.due("the first one again", x.moves(12), 1);
        C.sound(x, 2, "on 0 tap;".repeat(16), 16);
        x.days(1);
        C.due("the 16th line counts", x.look(6), 16);
        C.due("one more of the law", Checks.text(x, 0, "err 1;".repeat(17)), NONE);
        C.due("one more of rounds", Checks.text(x, 1, "for 1 rise 1;".repeat(13)), NONE);
        C.due("one more of the agenda", Checks.text(x, 2, "on 0 tap;".repeat(17)), NONE);
        int[] lines = {16, 12, 16};
        for (int k = 0; k < 3; k++) C.due("all stay as they were", x.look(11 + k), lines[k]);
    }

    private static void keywords() {
        SackedGlass x = Checks.court(0, 0);
        String[][] words = {
            {"tell", "err", "blame", "when", "or", "and", "not", "sort", "fear", "bribe", "glass", "kind", "stand", "day",
                "minister", "off"},
            {"for", "rise", "fall"},
            {"on", "name", "bribe", "glue", "free", "recall", "tap"}};
        C.sound(x, 0, "tell sort+fear+bribe+glass+kind+stand+day+minister+off when 1=1 or 1=1 and not 1=1;err 1;blame 1;", 3);
        C.sound(x, 1, "for 1 rise 1;for 1 fall 1;", 2);
        C.sound(x, 2, "on 1 name 0;on 1 bribe 0 1;on 1 glue 0 1;on 1 free 0;on 1 recall 0;on 1 tap;", 6);
        // A word of another text is none of this one.
        for (String word : words[1]) C.faulty(x, 0, "tell " + word + ";", 1, 5);
        for (String word : words[2]) if (!word.equals("bribe")) C.faulty(x, 0, "tell " + word + ";", 1, 5);
        for (String word : words[0]) C.faulty(x, 1, "for 1 " + word + " 1;", 1, 6);
        for (String word : words[0]) if (!word.equals("bribe")) C.faulty(x, 2, "on 1 " + word + " 0 1;", 1, 5);
        // A letter too few, one too many, and another size of letter.
        C.faulty(x, 0, "tel 1;", 1, 0);
        C.faulty(x, 0, "telll 1;", 1, 0);
        C.faulty(x, 0, "Tell 1;", 1, 0);
        C.faulty(x, 0, "telL 1;", 1, 0);
        for (String letter : new String[] {"a", "z", "A", "Z"}) C.faulty(x, 0, "tell" + letter + " 1;", 1, 0);
        C.faulty(x, 0, "tell 1 whenday=1;", 1, 7);
        C.faulty(x, 0, "tell offoff;", 1, 5);
        C.sound(x, 0, "tell1when1=1;err1;", 2);
    }

    private static void numbers() {
        SackedGlass x = Checks.court(0, 0);
        C.sound(x, 0, "err 1;", 1);
        C.due("one digit", x.of(0, 8), 1);
        C.sound(x, 0, "err 0999;", 1);
        C.due("four digits", x.of(0, 8), 999);
        C.sound(x, 0, "err 9999-9000;", 1);
        C.due("the greatest number", x.of(0, 8), 999);
        C.sound(x, 0, "err 0000;", 1);
        C.due("the least number", x.of(0, 8), 0);
        C.faulty(x, 0, "err 00001;", 1, 4);
        C.faulty(x, 0, "err 12345;", 1, 4);
        C.faulty(x, 0, "err 99999999999999999999;", 1, 4);
        C.faulty(x, 0, "err 1 2;", 1, 6);
        C.faulty(x, 0, "err -1;", 1, 4);
        C.faulty(x, 1, "for 00001 rise 1;", 1, 4);
        C.faulty(x, 2, "on 00001 tap;", 1, 3);
        C.sound(x, 1, "for 0001 rise 0040;", 1);
        C.sound(x, 2, "on 0999 bribe 0000 0099;", 1);
    }

    private static void signs() {
        SackedGlass x = Checks.court(0, 0);
        C.sound(x, 0, "err 1+1-1*1/1 when (1<2) and 1=1 and 2>1;", 1);
        // Every other byte can't stand anywhere, ahead of a sound text or behind it.
        for (int c = 0; c < 256; c++) {
            boolean known = c == 32 || c == 10 || c >= '0' && c <= '9' || c >= 'a' && c <= 'z' || c >= 'A' && c <= 'Z'
                    || ";+-*/()<=>".indexOf(c) >= 0;
            if (known) continue;
            SackedGlass y = new SackedGlass();
            C.faulty(y, 0, "" + (char) c, 1, 0);
            C.faulty(y, 0, "err 1" + (char) c + ";", 1, 5);
        }
    }

    private static void blanks() {
        SackedGlass x = Checks.court(0, 0);
        C.sound(x, 0, "  \n err\n\n5 \n when 1 = 1 \n;\n ", 1);
        C.due("err", x.of(0, 8), 5);
        C.sound(x, 0, " \n", 0);
        C.faulty(x, 0, "er r 1;", 1, 0);
        C.faulty(x, 0, "err 1 0;", 1, 6);
        C.faulty(x, 0, "err\t1;", 1, 3);
        C.faulty(x, 0, "err\r1;", 1, 3);
        C.faulty(x, 0, "err\u00a01;", 1, 3);
        C.faulty(x, 0, "err\u00001;", 1, 3);
    }

    private static void wraps() {
        // 9999 * 9999 * 50 is 4999000050, which is 704032754 beyond 2 to the 32nd; 9999 * 9999 * 30 is -1295567266.
        errIs("err 9999*9999*50-9999*9999*7-9999*417-3000;", 164);
        errIs("err 9999*9999*50/1000/1000;", 704);
        errIs("err 0-9999*9999*30/9999/1000;", 129);
        errIs("err 9999*9999*30;", 0);
        // 9999 * 9999 * 21 is 2099580021, and 9999 * 5000 is 49995000: the sum is -2145392275.
        errIs("err 9999*9999*21+9999*5000;", 0);
        holds("9999*9999*21+9999*5000<0", true);
        holds("0-9999*9999*21-9999*5000>0", true);
        holds("9999*9999*43=9999*9999*43", true);
        // 2 to the 31st, wrapped, is its own negative.
        holds("2048*2048*512=0-2048*2048*512", true);
        holds("2048*2048*512<0", true);
        holds("2048*2048*512-1>0", true);
        holds("2048*2048*1024=0", true);
    }

    private static void towardsZero() {
        errIs("err stand/2+10;", 7);
        errIs("err stand/8+10;", 10);
        errIs("err stand/7+10;", 9);
        errIs("err 7/2;", 3);
        errIs("err 7/8;", 0);
        errIs("err 9999/9999;", 1);
        errIs("err 9998/9999;", 0);
        holds("2048*2048*512/1=2048*2048*512", true);
    }

    private static void firstFault() {
        SackedGlass x = Checks.court(0, 0);
        C.faulty(x, 0, "err 1/0 1;", 2, 6);
        C.faulty(x, 0, "err 1 1/0;", 1, 6);
        C.faulty(x, 0, "err 1/0 when (((((((((1=1;", 2, 6);
        C.faulty(x, 0, "err 1 when (((((((((1/0=1;", 3, 19);
        C.faulty(x, 1, "for 0 rise 41;", 2, 4);
        C.faulty(x, 1, "for 0 rise;", 2, 4);
        C.faulty(x, 1, "for 1 rise 1;for;for 0 rise 0;", 1, 16);
        C.faulty(x, 2, "on 1000 name 1;", 2, 3);
        C.faulty(x, 2, "on 1 glue 1 5;", 2, 10);
        C.faulty(x, 2, "on 1 name 1 ?", 2, 10);
        C.faulty(x, 2, "on 1 name 0 ?", 1, 12);
        C.faulty(x, 0, "err 1;".repeat(16) + "err 1/0;", 3, 96);
        C.faulty(x, 0, "err 1;".repeat(15) + "err 1/0;err 1;", 2, 96);
    }

    private static void leastFault() {
        SackedGlass x = Checks.court(0, 0);
        // What is no KEYWORD of a line can't stand there, though no line more may either.
        C.faulty(x, 0, "err 1;".repeat(16) + "when", 1, 96);
        C.faulty(x, 0, "err 1;".repeat(16) + "?", 1, 96);
        C.faulty(x, 0, "err 1;".repeat(16) + "5", 1, 96);
        C.faulty(x, 1, "for 1 rise 1;".repeat(12) + "rise", 1, 156);
        C.faulty(x, 2, "on 1 tap;".repeat(16) + "tap", 1, 144);
        // Five digits are no NUMBER, be they beyond its bounds or 0.
        C.faulty(x, 1, "for 12345 rise 1;", 1, 4);
        C.faulty(x, 1, "for 1 rise 00041;", 1, 11);
        C.faulty(x, 2, "on 10000 tap;", 1, 3);
        C.faulty(x, 2, "on 1 name 00001;", 1, 10);
        C.faulty(x, 0, "err 1/00000;", 1, 6);
        // A ninth ( or not that can't stand there.
        C.faulty(x, 0, "err 1 when ((((((((1(", 1, 20);
        C.faulty(x, 0, "err 1 when ((((((((1=1 not", 1, 23);
    }

    private static void cannotStandThere() {
        SackedGlass x = Checks.court(0, 0);
        C.faulty(x, 0, "5;", 1, 0);
        for (String word : new String[] {"tell", "err", "blame", "when", "or", "and", "not"}) {
            C.faulty(x, 0, "err " + word + ";", 1, 4);
            C.faulty(x, 0, "err 1 when 1=" + word + ";", 1, 13);
        }
        C.faulty(x, 0, "err (1);", 1, 4);
        C.faulty(x, 0, "err 1 when 1=1);", 1, 14);
        C.faulty(x, 0, "err 1 when (1=1;", 1, 15);
        C.faulty(x, 0, "err 1 err 1;", 1, 6);
        C.faulty(x, 1, "rise 1;", 1, 0);
        C.faulty(x, 1, "for rise 1;", 1, 4);
        C.faulty(x, 1, "for 1 1;", 1, 6);
        C.faulty(x, 1, "for 1 rise fall;", 1, 11);
        C.faulty(x, 1, "for 1 rise 1 rise 1;", 1, 13);
        C.faulty(x, 2, "tap;", 1, 0);
        C.faulty(x, 2, "on tap;", 1, 3);
        C.faulty(x, 2, "on 1 0;", 1, 5);
        C.faulty(x, 2, "on 1 name tap;", 1, 10);
        C.faulty(x, 2, "on 1 bribe 0;", 1, 12);
        C.faulty(x, 2, "on 1 glue 0;", 1, 11);
        C.faulty(x, 2, "on 1 free 0 0;", 1, 12);
        C.faulty(x, 2, "on 1 recall 0 0;", 1, 14);
        C.faulty(x, 2, "on 1 tap tap;", 1, 9);
    }

    private static void endOfText() {
        SackedGlass x = Checks.court(0, 0);
        // Each text breaks off behind each of its tokens but the last.
        breaksOff(0, "err", "1", "+", "1", "/", "1", "when", "not", "(", "1", "<", "2", "and", "1", "=", "1", ")", ";");
        breaksOff(1, "for", "1", "rise", "1", ";");
        breaksOff(2, "on", "1", "bribe", "0", "9", ";");
        C.faulty(x, 0, "err 1   ", 1, 8);
        C.faulty(x, 0, "err 1 \n\n", 1, 8);
        C.faulty(x, 0, "err 1" + " ".repeat(395), 1, 400);
        C.faulty(x, 0, "err 1" + "+1".repeat(197) + " ", 1, 400);
        // As many tokens as bytes, and as many as can be of a sound text.
        C.faulty(x, 0, "?".repeat(400), 1, 0);
        C.sound(x, 0, "err 1" + "+1".repeat(197) + ";", 1);
        C.due("198 ones", x.of(0, 8), 198);
        C.sound(x, 0, "err 1 when 1=1" + "and 1=1".repeat(55) + ";", 1);
    }

    private static void breaksOff(int k, String... tokens) {
        StringBuilder text = new StringBuilder();
        SackedGlass x = Checks.court(0, 0);
        for (int i = 0; i + 1 < tokens.length; i++) {
            text.append(tokens[i]).append(' ');
            C.faulty(x, k, text.toString(), 1, text.length());
        }
        C.sound(x, k, text + tokens[tokens.length - 1], 1);
    }

    private static void partByZero() {
        SackedGlass x = new SackedGlass();
        C.faulty(x, 0, "err 1/0;", 2, 6);
        C.faulty(x, 0, "err 1/ 0000;", 2, 7);
        C.faulty(x, 0, "err 1*0/0;", 2, 8);
        C.faulty(x, 0, "err 1 when 1=1/0;", 2, 15);
        C.faulty(x, 0, "err 1 when not(1/0=1);", 2, 17);
        C.faulty(x, 0, "err 1/1/0;", 2, 8);
        C.sound(x, 0, "err 0/1*0;", 1);
        C.sound(x, 0, "err 1/1000-0;", 1);
    }

    private static void beyondBounds() {
        SackedGlass x = Checks.court(0, 0);
        C.faulty(x, 1, "for 0 rise 1;", 2, 4);
        C.faulty(x, 1, "for 31 rise 1;", 2, 4);
        C.faulty(x, 1, "for 9999 rise 1;", 2, 4);
        C.faulty(x, 1, "for 30 fall 41;", 2, 12);
        C.faulty(x, 1, "for 30 rise 9999;", 2, 12);
        C.faulty(x, 2, "on 1000 tap;", 2, 3);
        C.faulty(x, 2, "on 999 bribe 0 100;", 2, 15);
        C.sound(x, 1, "for 30 fall 40;for 1 rise 0;", 2);
        C.sound(x, 2, "on 999 bribe 0 99;on 0 bribe 0 0;", 2);
    }

    private static void noSuchTellerOrKind() {
        SackedGlass none = new SackedGlass();
        C.faulty(none, 2, "on 1 name 0;", 2, 10);
        C.faulty(none, 2, "on 1 bribe 0 1;", 2, 11);
        SackedGlass x = Checks.court(0, 0, 0, 0);
        String[] acts = {"name 2;", "bribe 2 1;", "glue 2 1;", "free 2;", "recall 2;"};
        for (String act : acts) C.faulty(x, 2, "on 1 " + act, 2, 5 + act.indexOf('2'));
        for (String act : acts) C.sound(x, 2, "on 1 " + act.replace('2', '1'), 1);
        C.faulty(x, 2, "on 1 name 9999;", 2, 10);
        C.faulty(x, 2, "on 1 glue 1 5;", 2, 12);
        C.sound(x, 2, "on 1 glue 1 4;on 1 glue 0 0;", 2);
        x.teller(0, 0);
        C.sound(x, 2, "on 1 name 2;", 1);
        SackedGlass ten = new SackedGlass();
        for (int i = 0; i < 10; i++) ten.teller(0, 0);
        C.sound(ten, 2, "on 1 name 9;", 1);
        C.faulty(ten, 2, "on 1 name 10;", 2, 10);
    }

    private static void seventeenthLine() {
        SackedGlass x = Checks.court(0, 0);
        String[] words = {"tell", "err", "blame"};
        for (String word : words) C.faulty(x, 0, "err 1;".repeat(16) + " " + word + " 1;", 3, 97);
        C.faulty(x, 0, "err 1;".repeat(16) + "tell", 3, 96);
        C.sound(x, 0, "err 1;".repeat(16) + " \n", 16);
        C.faulty(x, 2, "on 1 tap;".repeat(16) + "\non 1 tap;", 3, 145);
        C.faulty(x, 2, "on 1 tap;".repeat(16) + "on", 3, 144);
        C.sound(x, 2, "on 1 tap;".repeat(16) + "\n", 16);
    }

    private static void thirteenthLine() {
        SackedGlass x = new SackedGlass();
        C.faulty(x, 1, "for 1 rise 1;".repeat(12) + " for 1 rise 1;", 3, 157);
        C.faulty(x, 1, "for 1 rise 1;".repeat(12) + "for", 3, 156);
        C.faulty(x, 1, "for 1 rise 1;".repeat(12) + "for 0", 3, 156);
        C.sound(x, 1, "for 1 rise 1;".repeat(12) + " ", 12);
    }

    private static void ninthOpen() {
        SackedGlass x = Checks.court(0, 0);
        C.sound(x, 0, "err 1 when " + "(".repeat(8) + "1=1" + ")".repeat(8) + ";", 1);
        C.due("eight ( deep it is so", x.of(0, 8), 1);
        C.faulty(x, 0, "err 1 when " + "(".repeat(9) + "1=1" + ")".repeat(9) + ";", 3, 19);
        C.sound(x, 0, "err 1 when " + "not ".repeat(8) + "1=1;", 1);
        C.due("eight times not: it is so", x.of(0, 8), 1);
        C.sound(x, 0, "err 1 when " + "not ".repeat(7) + "1=2;", 1);
        C.due("seven times not: it is so", x.of(0, 8), 1);
        C.faulty(x, 0, "err 1 when " + "not ".repeat(9) + "1=1;", 3, 11 + 32);
        C.sound(x, 0, "err 1 when not(not(not(not(1=1))));", 1);
        C.faulty(x, 0, "err 1 when not(not(not(not(not 1=1))));", 3, 27);
        C.faulty(x, 0, "err 1 when not(not(not(not((1=1)))));", 3, 27);
        // What is closed is open no more: a ( by its ), a not behind what it is of.
        C.sound(x, 0, "err 1 when (1=1) and (1=1) and (1=1) and (1=1) and (1=1) and (1=1) and (1=1) and (1=1) and (1=1);", 1);
        C.sound(x, 0, "err 1 when not 1=2 and not 1=2 and not 1=2 and not 1=2 and not 1=2 and not 1=2 and not 1=2 and "
                + "not 1=2 and not 1=2;", 1);
        C.sound(x, 0, "err 1 when ((((((not 1=2 and (1=1 or not 1=1)))))));", 1);
        C.faulty(x, 0, "err 1 when (((((((not 1=2 and (1=1 or not 1=1))))))));", 3, 38);
        // Each line begins anew.
        C.sound(x, 0, ("err 1 when " + "(".repeat(8) + "1=1" + ")".repeat(8) + ";").repeat(2), 2);
        // All that can wait at once: a sum and a product in the deepest one, "or" and "and" on each level.
        StringBuilder deep = new StringBuilder("err 1 when ");
        for (int i = 0; i < 8; i++) deep.append("1=2 or 1=1 and (");
        deep.append("1=2 or 1=1 and 5+2*3=1+5*2");
        C.sound(x, 0, deep + ")".repeat(8) + ";", 1);
        C.due("the deepest one is so", x.of(0, 8), 1);
        C.sound(x, 0, deep.substring(0, deep.length() - 1) + "1" + ")".repeat(8) + ";", 1);
        C.due("the deepest one is not so", x.of(0, 8), 0);
    }

    private static void firstLine() {
        SackedGlass x = Checks.court(0, 5);
        Checks.text(x, 0, "err 1;err 2;");
        C.due("the first", x.of(0, 8), 1);
        Checks.text(x, 0, "err 1 when 1=2;err 2;err 3;");
        C.due("the first that is so", x.of(0, 8), 2);
        Checks.text(x, 0, "tell 1;blame 1;err 3;");
        C.due("the first with that word", x.of(0, 8), 3);
        Checks.text(x, 0, "err 1 when 1=2;err 2 when 1=2;");
        C.due("none is so", x.of(0, 8), 500);
        Checks.text(x, 0, "err 1 when 1=2;".repeat(15) + "err 9;");
        C.due("the last of sixteen", x.of(0, 8), 9);
    }

    private static void noLine() {
        SackedGlass x = Checks.court(0, 9, 0, 0);
        x.set(2, 0, -999);
        for (int kind = 0; kind < 5; kind++) {
            x.set(0, 0, 20 * kind + 19);
            C.due("tell", x.of(0, 7), kind);
        }
        C.due("err of FEAR 9", x.of(0, 8), 900);
        C.due("err of FEAR 0", x.of(1, 8), 0);
        x.act(2, 1, 0);
        x.days(1);
        C.due("blame for 4 off", x.of(1, 9), 12);
        x.set(0, 0, 0);
        C.due("blame for 0 off", x.of(1, 9), 0);
    }

    private static void tellHeld() {
        SackedGlass x = Checks.court(0, 0);
        tellIs(x, "0-1", 0);
        tellIs(x, "0-9999", 0);
        tellIs(x, "0", 0);
        tellIs(x, "4", 4);
        tellIs(x, "5", 4);
        tellIs(x, "9999", 4);
        x.days(1);
        C.due("SAID", x.of(0, 6), 4);
    }

    private static void tellIs(SackedGlass x, String sum, int due) {
        Checks.text(x, 0, "tell " + sum + ";");
        C.due("tell " + sum, x.of(0, 7), due);
    }

    private static void errHeld() {
        errIs("err 0-1;", 0);
        errIs("err 0;", 0);
        errIs("err 1;", 1);
        errIs("err 1000;", 1000);
        errIs("err 1001;", 1000);
        errIs("err 9999;", 1000);
    }

    private static void blameHeld() {
        blameIs("0-1", 0);
        blameIs("0", 0);
        blameIs("99", 99);
        blameIs("100", 99);
        blameIs("9999", 99);
    }

    private static void blameIs(String sum, int due) {
        SackedGlass x = Checks.court(0, 0);
        x.act(2, 0, 0);
        Checks.text(x, 0, "blame " + sum + ";");
        x.days(1);
        C.due("blame " + sum, x.of(0, 9), due);
        C.due("STAND by blame " + sum, x.of(0, 4), -due);
    }

    /** Each fact at its least and at its greatest, as far as a number can be told of it. */
    private static void facts() {
        SackedGlass x = Checks.court(0, 0, 5, 9);
        x.act(1, 1, 99);
        x.set(4, 0, -999);
        x.set(4, 1, 999);
        x.set(2, 0, -999);
        x.set(0, 0, 0);
        factIs(x, "sort", 0, 5);
        factIs(x, "fear", 0, 9);
        factIs(x, "bribe", 0, 99);
        factIs(x, "stand+999", 0, 1000);
        factIs(x, "stand-998", 0, 1);
        factIs(x, "glass", 0, 0);
        factIs(x, "kind", 0, 0);
        factIs(x, "day", 0, 0);
        x.set(0, 0, 99);
        factIs(x, "glass", 99, 99);
        factIs(x, "kind", 4, 4);
        x.set(0, 0, 79);
        factIs(x, "kind", 3, 3);
        x.days(60);
        factIs(x, "day", 60, 60);
    }

    private static void factIs(SackedGlass x, String sum, int first, int second) {
        Checks.text(x, 0, "err " + sum + ";");
        C.due("err " + sum + " of 0", x.of(0, 8), first);
        C.due("err " + sum + " of 1", x.of(1, 8), second);
        Checks.text(x, 0, "tell " + sum + ";");
        C.due("tell " + sum + " of 0", x.of(0, 7), Math.min(4, first));
        C.due("tell " + sum + " of 1", x.of(1, 7), Math.min(4, second));
        Checks.text(x, 0, "");
    }

    private static void minister() {
        SackedGlass x = Checks.court(0, 0, 0, 0);
        Checks.text(x, 0, "err minister*10+5;");
        C.due("without a minister", x.of(0, 8), 5);
        x.act(0, 1, 0);
        C.due("it is another one", x.of(0, 8), 5);
        C.due("it is", x.of(1, 8), 15);
    }

    private static void off() {
        SackedGlass x = Checks.court(0, 0);
        Checks.text(x, 0, "tell off+1;err off+1;blame off*10+1;");
        C.due("nothing SAID: blame", x.of(0, 9), 0);
        x.act(2, 0, 2);
        x.days(1);
        int[] due = {21, 11, 1, 11, 21};
        for (int kind = 0; kind < 5; kind++) {
            x.set(0, 0, 20 * kind);
            C.due("blame with KIND " + kind, x.of(0, 9), due[kind]);
            C.due("tell with KIND " + kind, x.of(0, 7), 1);
            C.due("err with KIND " + kind, x.of(0, 8), 1);
        }
    }
}
