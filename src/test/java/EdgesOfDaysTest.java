/** The boundaries that the document names of days (3): what is told, comes, is blamed, falls, is written and kept. */
public final class EdgesOfDaysTest {
    private static final int NONE = SackedGlass.NONE;
    private static final Sentences S = new Sentences();
    private static final Checks C = S.checks;

    public static void main(String[] args) {
        S.says("Line by line of AN AGENDA for this DAY, what can be done", EdgesOfDaysTest::whatCanBeDone);
        S.says("name: a TELLER not GONE is MINISTER", EdgesOfDaysTest::name);
        S.says("bribe: BRIBE is N (COIN N less)", EdgesOfDaysTest::bribe);
        S.says("glue: GLUE; free: no GLUE", EdgesOfDaysTest::glueAndFree);
        S.says("recall: one that is GONE is not (STAND 0)", EdgesOfDaysTest::recall);
        S.says("tap: COIN is 1 more for each TELLER not GONE whose GLUE is none, 1 less for each other one not GONE",
                EdgesOfDaysTest::tap);
        S.says("SAID is GLUE, if there is one", EdgesOfDaysTest::saidIsGlue);
        S.says("if err is above 0, a DRAW of 1000", EdgesOfDaysTest::errAboveZero);
        S.says("below err a DRAW of 2: 0: one KIND less, 1: one more (0 .. 4)", EdgesOfDaysTest::belowErr);
        S.says("SAID of those GONE is none", EdgesOfDaysTest::saidOfGone);
        S.says("if GUSTS are above 0, a DRAW of 1000", EdgesOfDaysTest::gustsAboveZero);
        S.says("below GUSTS a DRAW of 21, less 10, is added", EdgesOfDaysTest::belowGusts);
        S.says("(0 .. 99 at most, once both came)", EdgesOfDaysTest::onceBothCame);
        S.says("is SAID KIND (as it is now), STAND is 1 more (999 at most)", EdgesOfDaysTest::toldRightly);
        S.says("else blame less (-999 at least)", EdgesOfDaysTest::blamed);
        S.says("Is KIND 0 and there is a MINISTER whose SAID is 2 at least", EdgesOfDaysTest::flood);
        S.says("FLOODS one more, its STAND 20 less (-999 at least)", EdgesOfDaysTest::floodBlame);
        S.says("If there is a MINISTER and its STAND is below FALLS: it is GONE, MINISTER none", EdgesOfDaysTest::fall);
        S.says("If there is none: MINISTER is the TELLER not GONE with greatest STAND (of several the least; none: none)",
                EdgesOfDaysTest::named);
        S.says("DAY is one more", EdgesOfDaysTest::dayIsMore);
        S.says("By hand: to NAME, to BRIBE, to GLUE, to FREE, to RECALL, as there", EdgesOfDaysTest::byHand);
        S.says("THE BOOK (150 lines; no more then)", EdgesOfDaysTest::fullBook);
        S.says("1: a line only if there is one", EdgesOfDaysTest::noneToldRightly);
        S.says("4 by (f) too, a line only if one is named who was not", EdgesOfDaysTest::lineOfNaming);
        S.says("A day's lines: 0, 1, 2, 3, 4", EdgesOfDaysTest::linesOfDay);
        S.says("on how many days it told (90 of the latest days on which any told are kept), what, and what came",
                EdgesOfDaysTest::fullRecord);
        S.finish("EdgesOfDaysTest");
    }

    /** Three tellers, of whom 0 has fallen: DAY 1, MINISTER 1, three lines on DAY 0 behind its naming. */
    private static SackedGlass withOneGone() {
        SackedGlass x = Checks.court(0, 0, 0, 0, 0, 0);
        x.set(4, 0, -50);
        x.act(0, 0, 0);
        x.days(1);
        C.due("one is GONE", x.of(0, 5), 1);
        C.due("another is MINISTER", x.look(4), 1);
        return x;
    }

    private static void whatCanBeDone() {
        SackedGlass x = withOneGone();
        int lines = x.look(9);
        // None of these can be done; the bribe behind them can.
        C.sound(x, 2, "on 1 name 0;on 1 free 1;on 1 free 0;on 1 recall 1;on 1 bribe 2 5;on 0 tap;on 2 tap;", 7);
        x.days(1);
        C.due("MINISTER stays", x.look(4), 1);
        C.due("COIN", x.look(6), -5);
        C.line(x, lines, 1, 5, 2, 5);
        C.line(x, lines + 1, 1, 0, 2, 50);
        C.due("STAND of one not recalled", x.of(1, 4), 2);
        C.due("one bribed, what came, who told", x.look(9), lines + 3);
        // In the order of the lines: one recalled can be named behind it, not ahead of it.
        x = withOneGone();
        C.sound(x, 2, "on 1 recall 0;on 1 name 0;", 2);
        x.days(1);
        C.due("recalled and named", x.look(4), 0);
        x = withOneGone();
        C.sound(x, 2, "on 1 name 0;on 1 recall 0;", 2);
        x.days(1);
        C.due("recalled, not named", x.look(4), 1);
        C.due("not GONE", x.of(0, 5), 0);
    }

    private static void name() {
        SackedGlass x = withOneGone();
        C.sound(x, 2, "on 1 name 2;on 2 name 0;", 2);
        x.days(1);
        C.due("one not GONE", x.look(4), 2);
        x.days(1);
        C.due("one GONE", x.look(4), 2);
    }

    private static void bribe() {
        SackedGlass x = Checks.court(0, 0);
        C.sound(x, 2, "on 0 bribe 0 99;on 0 bribe 0 98;on 1 bribe 0 0;", 3);
        x.days(1);
        C.due("BRIBE is the later one", x.of(0, 2), 98);
        C.due("COIN is less by both", x.look(6), -197);
        x.days(1);
        C.due("BRIBE 0", x.of(0, 2), 0);
        C.due("COIN 0 less", x.look(6), -197);
    }

    private static void glueAndFree() {
        SackedGlass x = withOneGone();
        C.sound(x, 2, "on 1 glue 1 0;on 1 glue 2 4;on 1 glue 0 3;on 2 free 1;on 2 free 0;", 5);
        x.set(2, 0, -999);
        x.days(1);
        C.due("GLUE 0", x.of(1, 3), 0);
        C.due("GLUE 4", x.of(2, 3), 4);
        C.due("GLUE of one GONE", x.of(0, 3), 3);
        C.due("SAID of one GONE", x.of(0, 6), NONE);
        x.days(1);
        C.due("no GLUE", x.of(1, 3), NONE);
        C.due("no GLUE of one GONE", x.of(0, 3), NONE);
        C.due("GLUE stays", x.of(2, 3), 4);
    }

    private static void recall() {
        SackedGlass x = withOneGone();
        C.due("STAND of one GONE", x.of(0, 4), -49);
        C.sound(x, 2, "on 1 recall 0;on 1 recall 2;", 2);
        int lines = x.look(9);
        x.days(1);
        C.due("GONE no more", x.of(0, 5), 0);
        C.due("STAND from 0 on", x.of(0, 4), 1);
        C.due("SAID", x.of(0, 6), 2);
        C.due("STAND of one not recalled", x.of(2, 4), 2);
        C.line(x, lines, 1, 8, 0, 0);
        C.line(x, lines + 1, 1, 0, 2, 50);
    }

    private static void tap() {
        SackedGlass x = new SackedGlass();
        C.sound(x, 2, "on 0 tap;", 1);
        x.days(1);
        C.due("COIN without tellers", x.look(6), 0);
        x = withOneGone();
        C.sound(x, 2, "on 1 tap;on 2 glue 1 2;on 2 tap;on 3 glue 2 2;on 3 tap;on 3 tap;", 6);
        int lines = x.look(9);
        x.days(1);
        C.due("two free ones", x.look(6), 2);
        C.due("a tap is not in the book", x.look(9), lines + 2);
        x.days(1);
        C.due("one free, one glued", x.look(6), 2);
        x.days(1);
        C.due("two glued ones, twice", x.look(6), -2);
    }

    private static void saidIsGlue() {
        for (int glue = 0; glue < 5; glue++) {
            SackedGlass x = Checks.court(0, 9);
            Checks.text(x, 0, "tell 3;err 1000;");
            x.act(2, 0, glue);
            x.days(1);
            C.due("SAID", x.of(0, 6), glue);
            C.due("nothing is drawn", x.look(10), 0);
        }
    }

    private static void errAboveZero() {
        SackedGlass x = Checks.court(0, 0);
        x.days(1);
        C.due("no draw by err 0", x.look(10), 0);
        Checks.text(x, 0, "err 0-5;");
        x.days(1);
        C.due("no draw by err below 0", x.look(10), 0);
        Checks.text(x, 0, "err 1;");
        x.days(1);
        C.due("one draw by err 1", x.look(10), 1013904223);
        x = Checks.court(0, 1);
        x.set(4, 0, -50);
        x.act(0, 0, 0);
        x.days(1);
        int state = x.look(10);
        x.days(1);
        C.due("no draw for one GONE", x.look(10), state);
    }

    /** What a teller says from this STATE if it errs so much and GLASS is this. */
    private static int word(int state, int err, int glass) {
        SackedGlass x = Checks.court(0, 0);
        x.state(state);
        x.set(0, 0, glass);
        Checks.text(x, 0, "err " + err + ";");
        x.days(1);
        return x.of(0, 6);
    }

    private static void belowErr() {
        // From STATE 0: 563 of 1000, then 1 of 2. From 2: 567, then 0. From 5: 73, then 0.
        C.due("563 is not below 563", word(0, 563, 50), 2);
        C.due("563 is below 564", word(0, 564, 50), 3);
        C.due("567 is not below 567", word(2, 567, 50), 2);
        C.due("567 is below 568", word(2, 568, 50), 1);
        C.due("one more than 3", word(0, 1000, 79), 4);
        C.due("not more than 4", word(0, 1000, 80), 4);
        C.due("one less than 1", word(5, 1000, 20), 0);
        C.due("not less than 0", word(5, 1000, 19), 0);
        C.due("one more than 0", word(0, 1000, 0), 1);
        C.due("one less than 4", word(5, 1000, 99), 3);
        // Each draws in its turn: 1 from STATE -951047886, which draws 886 of 1000.
        SackedGlass x = Checks.court(0, 0, 0, 0);
        Checks.text(x, 0, "err 886;");
        x.state(Integer.MIN_VALUE);
        x.days(1);
        C.due("SAID of 0", x.of(0, 6), 3);
        C.due("SAID of 1", x.of(1, 6), 2);
        C.due("three draws", x.look(10), 1372387049);
    }

    private static void saidOfGone() {
        SackedGlass x = withOneGone();
        C.due("on the day on which it fell", x.of(0, 6), 2);
        x.days(1);
        C.due("on the next day", x.of(0, 6), NONE);
        x.act(4, 0, 0);
        C.due("recalled, it has SAID nothing yet", x.of(0, 6), NONE);
        x.days(1);
        C.due("then it says", x.of(0, 6), 2);
    }

    private static void gustsAboveZero() {
        SackedGlass x = new SackedGlass();
        x.days(1);
        C.due("no draw by 0", x.look(10), 0);
        x.set(1, 0, 1);
        x.days(1);
        C.due("one draw by 1", x.look(10), 1013904223);
        C.due("GLASS", x.look(2), 50);
    }

    private static void belowGusts() {
        int[][] rows = {{0, 563, 50}, {0, 564, 46}, {1, 65, 50}, {1, 66, 58}, {2, 1000, 50}, {-1, 61, 50}, {-1, 62, 54}};
        for (int[] r : rows) {
            SackedGlass x = new SackedGlass();
            x.state(r[0]);
            x.set(1, 0, r[1]);
            x.days(1);
            C.due("GLASS from STATE " + r[0] + " by GUSTS " + r[1], x.look(2), r[2]);
        }
        // The least and the greatest of the 21.
        boolean least = false;
        boolean greatest = false;
        for (int state = 0; state < 200; state++) {
            SackedGlass x = new SackedGlass();
            x.state(state);
            x.set(1, 0, 1000);
            x.days(1);
            C.due("40 .. 60 from STATE " + state, x.look(2) >= 40 && x.look(2) <= 60, true);
            least |= x.look(2) == 40;
            greatest |= x.look(2) == 60;
        }
        C.due("10 less at times", least, true);
        C.due("10 more at times", greatest, true);
    }

    private static void onceBothCame() {
        // From STATE 0 a gust is 4 less, from 1 it is 8 more.
        C.due("97 + 5 - 4", evening(0, 97, "for 1 rise 5;"), 98);
        C.due("99 + 40 - 4", evening(0, 99, "for 1 rise 40;"), 99);
        C.due("95 + 8", evening(1, 95, ""), 99);
        C.due("91 + 8", evening(1, 91, ""), 99);
        C.due("90 + 8", evening(1, 90, ""), 98);
        C.due("2 - 4 + 8", evening(1, 2, "for 1 fall 4;"), 6);
        C.due("0 - 40 + 8", evening(1, 0, "for 1 fall 40;"), 0);
        C.due("4 - 4", evening(0, 4, ""), 0);
        C.due("3 - 4", evening(0, 3, ""), 0);
        C.due("5 - 4", evening(0, 5, ""), 1);
    }

    private static int evening(int state, int glass, String rounds) {
        SackedGlass x = new SackedGlass();
        x.state(state);
        x.set(0, 0, glass);
        x.set(1, 0, 1000);
        Checks.text(x, 1, rounds);
        x.days(1);
        return x.look(2);
    }

    private static void toldRightly() {
        SackedGlass x = Checks.court(0, 0);
        x.set(4, 0, 998);
        x.days(1);
        C.due("998 and 1", x.of(0, 4), 999);
        x.days(1);
        C.due("999 at most", x.of(0, 4), 999);
        // 59 in the morning, 60 in the evening: not what was told.
        Checks.text(x, 1, "for 1 rise 1;");
        x.set(0, 0, 59);
        x.set(4, 0, 0);
        x.days(1);
        C.due("KIND as it is now", x.of(0, 4), -3);
        x.act(2, 0, 3);
        x.set(4, 0, 0);
        x.set(0, 0, 59);
        x.days(1);
        C.due("told as it came", x.of(0, 4), 1);
    }

    private static void blamed() {
        SackedGlass x = Checks.court(0, 0);
        x.set(2, 0, -999);
        x.act(2, 0, 1);
        x.set(4, 0, -996);
        x.days(1);
        C.due("-996 less 3", x.of(0, 4), -999);
        x.days(1);
        C.due("-999 at least", x.of(0, 4), -999);
        x.set(4, 0, -998);
        x.days(1);
        C.due("-998 less 3", x.of(0, 4), -999);
        Checks.text(x, 0, "blame 0;");
        x.set(4, 0, 5);
        x.days(1);
        C.due("blame 0", x.of(0, 4), 5);
        x = withOneGone();
        x.days(1);
        C.due("one GONE is not blamed", x.of(0, 4), -49);
    }

    private static void flood() {
        // GLASS, what the minister says, whether that is a flood.
        int[][] rows = {{0, 2, 1}, {19, 2, 1}, {20, 2, 0}, {19, 1, 0}, {19, 0, 0}, {19, 3, 1}, {19, 4, 1}};
        for (int[] r : rows) {
            SackedGlass x = Checks.court(0, 0, 0, 0);
            x.set(2, 0, -999);
            x.set(0, 0, r[0]);
            x.act(0, 1, 0);
            x.act(2, 1, r[1]);
            x.act(2, 0, 4 - r[1]);
            x.days(1);
            C.due("FLOODS at GLASS " + r[0] + ", minister says " + r[1], x.look(5), r[2]);
        }
        SackedGlass x = Checks.court(0, 0);
        x.set(0, 0, 0);
        x.act(2, 0, 4);
        x.days(1);
        C.due("without a minister", x.look(5), 0);
        C.due("it is named behind that", x.look(4), 0);
    }

    private static void floodBlame() {
        int[][] rows = {{0, -26}, {-973, -999}, {-974, -999}, {-999, -999}, {999, 973}};
        for (int[] r : rows) {
            SackedGlass x = Checks.court(0, 0);
            x.set(2, 0, -999);
            x.set(0, 0, 0);
            x.act(0, 0, 0);
            x.act(2, 0, 2);
            x.set(4, 0, r[0]);
            x.days(1);
            C.due("STAND from " + r[0] + ", 6 and 20 less", x.of(0, 4), r[1]);
            C.due("FLOODS", x.look(5), 1);
            x.days(1);
            C.due("FLOODS", x.look(5), 2);
        }
    }

    private static void fall() {
        // STAND in the evening, FALLS, whether it falls.
        int[][] rows = {{-10, -10, 0}, {-11, -10, 1}, {0, 0, 0}, {-1, 0, 1}, {-998, -999, 0}, {-998, -998, 0}, {-998, -997, 1}};
        for (int[] r : rows) {
            SackedGlass x = Checks.court(0, 0);
            x.set(4, 0, r[0] - 1);
            x.set(2, 0, r[1]);
            x.act(0, 0, 0);
            C.due("STAND " + r[0] + ", FALLS " + r[1], x.days(1), r[2]);
            C.due("GONE", x.of(0, 5), r[2]);
            C.due("MINISTER", x.look(4), r[2] == 1 ? NONE : 0);
        }
        SackedGlass x = Checks.court(0, 0, 0, 0);
        x.set(4, 1, -50);
        x.act(0, 0, 0);
        C.due("another than the minister does not fall", x.days(1), 0);
        C.due("GONE", x.of(1, 5), 0);
        x = Checks.court(0, 0);
        x.set(4, 0, -50);
        C.due("nor one who is named on that day", x.days(1), 0);
        C.due("MINISTER", x.look(4), 0);
        C.due("but on the next one", x.days(1), 1);
    }

    private static void named() {
        SackedGlass x = Checks.court(0, 0, 0, 0, 0, 0);
        x.set(4, 1, 3);
        x.set(4, 2, 3);
        x.days(1);
        C.due("of several the least", x.look(4), 1);
        x.set(4, 2, 999);
        x.days(1);
        C.due("there is one: it stays", x.look(4), 1);
        x = Checks.court(0, 0, 0, 0);
        x.set(2, 0, -999);
        x.set(4, 0, -999);
        x.set(4, 1, -998);
        x.act(2, 0, 0);
        x.act(2, 1, 0);
        x.set(0, 0, 0);
        x.days(1);
        C.due("the greatest below 0", x.look(4), 1);
        x = new SackedGlass();
        x.days(1);
        C.due("none: none", x.look(4), NONE);
        x = withOneGone();
        x.set(4, 0, 999);
        x.set(4, 1, -50);
        x.set(4, 2, -60);
        x.days(1);
        C.due("not one that is GONE", x.look(4), 2);
        x.days(1);
        C.due("all are GONE: none", x.look(4), NONE);
    }

    private static void dayIsMore() {
        SackedGlass x = new SackedGlass();
        x.days(1);
        C.due("DAY", x.look(1), 1);
        x.days(60);
        C.due("DAY", x.look(1), 61);
    }

    private static void byHand() {
        SackedGlass x = withOneGone();
        int lines = x.look(9);
        C.due("name", x.act(0, 2, 0), true);
        C.due("bribe", x.act(1, 0, 9), true);
        C.due("glue", x.act(2, 0, 3), true);
        C.due("free", x.act(3, 0, 0), true);
        C.due("recall", x.act(4, 0, 0), true);
        C.line(x, lines, 1, 4, 2, 0);
        C.line(x, lines + 1, 1, 5, 0, 9);
        C.line(x, lines + 2, 1, 6, 0, 3);
        C.line(x, lines + 3, 1, 7, 0, 0);
        C.line(x, lines + 4, 1, 8, 0, 0);
        C.due("lines", x.look(9), lines + 5);
        C.due("STAND", x.of(0, 4), 0);
        C.due("COIN", x.look(6), -9);
    }

    private static void fullBook() {
        SackedGlass x = Checks.court(0, 0);
        x.set(2, 0, -999);
        x.act(2, 0, 0);
        for (int i = 0; i < 148; i++) x.act(1, 0, 99 - i % 2);
        C.due("lines", x.look(9), 149);
        int coin = x.look(6);
        x.set(0, 0, 5);
        x.days(1);
        // What came, who told it and who is named would be three lines.
        C.due("150 lines", x.look(9), 150);
        C.line(x, 149, 0, 0, 0, 5);
        C.due("the minister is named all the same", x.look(4), 0);
        C.due("bribed all the same", x.act(1, 0, 50), true);
        C.due("COIN", x.look(6), coin - 50);
        C.due("no more lines", x.look(9), 150);
        C.line(x, 149, 0, 0, 0, 5);
        C.line(x, 0, 0, 6, 0, 0);
        C.due("there is no line 150", x.book(150, 0), NONE - 9999);
        x.undo();
        x.undo();
        C.due("undone behind the last line", x.look(9), 149);
        C.due("there is no line 149", x.book(149, 0), NONE - 9999);
        x.act(3, 0, 0);
        C.line(x, 149, 0, 7, 0, 0);
    }

    private static void noneToldRightly() {
        SackedGlass x = new SackedGlass();
        x.days(1);
        C.due("no tellers: what came alone", x.look(9), 1);
        x = Checks.court(0, 0, 0, 0, 0, 0);
        x.act(2, 0, 0);
        x.act(2, 1, 0);
        x.act(2, 2, 1);
        x.days(1);
        C.line(x, 3, 0, 0, 2, 50);
        C.line(x, 4, 0, 4, 2, 0);
        C.due("none told it", x.look(9), 5);
        x.set(0, 0, 0);
        x.days(1);
        C.line(x, 6, 1, 1, 0, 2);
    }

    private static void lineOfNaming() {
        SackedGlass x = Checks.court(0, 0);
        x.days(1);
        C.line(x, 2, 0, 4, 0, 0);
        x.days(1);
        C.due("the same one stays: what came, who told", x.look(9), 5);
        x.set(4, 0, -50);
        x.days(1);
        C.line(x, 7, 2, 3, 0, -49);
        C.due("nobody is there to be named", x.look(9), 8);
        x.days(1);
        C.due("nor on the next day", x.look(9), 9);
        x.act(4, 0, 0);
        x.days(1);
        C.line(x, 12, 4, 4, 0, 0);
        C.due("lines", x.look(9), 13);
    }

    private static void linesOfDay() {
        SackedGlass x = Checks.court(0, 0, 0, 0);
        x.set(0, 0, 0);
        x.set(2, 0, -5);
        C.sound(x, 2, "on 0 glue 0 4;on 0 name 0;", 2);
        x.days(1);
        C.line(x, 0, 0, 6, 0, 4);
        C.line(x, 1, 0, 4, 0, 0);
        C.line(x, 2, 0, 0, 0, 0);
        C.line(x, 3, 0, 1, 1, 1);
        C.line(x, 4, 0, 2, 0, -32);
        C.line(x, 5, 0, 3, 0, -32);
        C.line(x, 6, 0, 4, 1, 0);
        C.due("lines", x.look(9), 7);
    }

    private static void fullRecord() {
        SackedGlass x = new SackedGlass();
        x.days(5);
        C.due("days on which none told are not kept", x.look(18), 0);
        x.teller(0, 0);
        x.act(2, 0, 0);
        x.set(2, 0, -999);
        x.days(1);
        x.act(3, 0, 0);
        x.days(60);
        x.days(28);
        C.due("89 days", x.look(18), 89);
        C.due("on 89 days", x.right(0, 1), 89);
        C.due("rightly but on the first", x.right(0, 0), 88);
        x.days(1);
        C.due("90 days", x.look(18), 90);
        C.due("rightly but on the first", x.right(0, 0), 89);
        x.days(1);
        C.due("90 days", x.look(18), 90);
        C.due("on 90 days", x.right(0, 1), 90);
        C.due("the first one is not kept any more", x.right(0, 0), 90);
        // A day on which none tells pushes none out.
        x.set(2, 0, -10);
        x.set(4, 0, -50);
        x.days(1);
        C.due("GONE", x.of(0, 5), 1);
        x.days(60);
        C.due("90 days", x.look(18), 90);
        C.due("on 90 days", x.right(0, 1), 90);
        // One who came late has told on fewer of these days, and pushes the other one's out.
        x.teller(0, 0);
        x.set(2, 0, -999);
        x.days(10);
        C.due("90 days", x.look(18), 90);
        C.due("0 on 80 days", x.right(0, 1), 80);
        C.due("1 on 10 days", x.right(1, 1), 10);
    }
}
