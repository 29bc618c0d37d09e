/** Promises 1 to 6 and 11 to 13: tellers, what is set and done, days, the book. */
public final class CourtTest {
    private static final int NONE = SackedGlass.NONE;
    private static final Checks C = new Checks();

    public static void main(String[] args) {
        promise1New();
        promise2State();
        promise3Teller();
        promise4Set();
        promise5Act();
        promise6DaysErr();
        promise6DaysGusts();
        promise6DaysStand();
        promise6DaysFallAndName();
        promise6DaysAgenda();
        promise6DaysBounds();
        promise11Of();
        promise12Moves();
        promise13Book();
        C.finish("CourtTest");
    }

    private static void promise1New() {
        C.due("NONE", SackedGlass.NONE, -1);
        SackedGlass x = new SackedGlass();
        int[] due = {0, 0, 50, 2, NONE, 0, 0, 0, -10, 0, 0, 0, 0, 0, 0, 0, 0, 0, 0};
        for (int i = 0; i < due.length; i++) C.due("look(" + i + ") of a new one", x.look(i), due[i]);
        C.due("undo() of a new one", x.undo(), false);
        C.due("image(false) of a new one", x.image(false), false);
    }

    private static void promise2State() {
        SackedGlass x = new SackedGlass();
        C.due("state(7)", x.state(7), 0);
        C.due("state(-5)", x.state(-5), 7);
        C.due("look(10)", x.look(10), -5);
        C.due("state(MIN)", x.state(Integer.MIN_VALUE), -5);
        C.due("look(10)", x.look(10), Integer.MIN_VALUE);
    }

    private static void promise3Teller() {
        SackedGlass x = new SackedGlass();
        C.due("teller(-1, 0)", x.teller(-1, 0), NONE);
        C.due("teller(6, 0)", x.teller(6, 0), NONE);
        C.due("teller(0, -1)", x.teller(0, -1), NONE);
        C.due("teller(0, 10)", x.teller(0, 10), NONE);
        C.due("look(0)", x.look(0), 0);
        for (int i = 0; i < 10; i++) C.due("teller " + i, x.teller(i % 6, i), i);
        C.due("an eleventh teller", x.teller(0, 0), NONE);
        C.due("look(0)", x.look(0), 10);
        C.due("of(9, 0)", x.of(9, 0), 3);
        C.due("of(9, 1)", x.of(9, 1), 9);
    }

    private static void promise4Set() {
        SackedGlass x = Checks.court(0, 0);
        int[][] bounds = {{0, 99}, {0, 1000}, {-999, 0}, {0, 9}, {-999, 999}};
        int[] looks = {2, 7, 8};
        for (int what = 0; what < 5; what++) {
            for (int v : bounds[what]) {
                int who = what < 3 ? 77 : 0;
                C.due("set(" + what + ", who, " + v + ")", x.set(what, who, v), true);
                int got = what < 3 ? x.look(looks[what]) : x.of(0, what == 3 ? 1 : 4);
                C.due("what set(" + what + ") set", got, v);
            }
            C.due("set below of " + what, x.set(what, 0, bounds[what][0] - 1), false);
            C.due("set above of " + what, x.set(what, 0, bounds[what][1] + 1), false);
        }
        C.due("set(3, 1, 0)", x.set(3, 1, 0), false);
        C.due("set(4, -1, 0)", x.set(4, -1, 0), false);
        C.due("set(-1, 0, 0)", x.set(-1, 0, 0), false);
        C.due("set(5, 0, 0)", x.set(5, 0, 0), false);
        C.due("GLASS stays", x.look(2), 99);
        C.due("FEAR stays", x.of(0, 1), 9);
        C.due("STAND stays", x.of(0, 4), 999);
    }

    private static void promise5Act() {
        SackedGlass x = Checks.court(0, 0, 1, 0);
        C.due("name 0", x.act(0, 0, -77), true);
        C.due("MINISTER", x.look(4), 0);
        C.due("name nobody", x.act(0, 2, 0), false);
        C.due("name NONE", x.act(0, NONE, 0), false);
        C.due("bribe 0", x.act(1, 0, 99), true);
        C.due("bribe 1", x.act(1, 1, 0), true);
        C.due("COIN", x.look(6), -99);
        C.due("bribe by less than nothing", x.act(1, 0, -1), false);
        C.due("bribe by 100", x.act(1, 0, 100), false);
        C.due("bribed again", x.act(1, 0, 3), true);
        C.due("BRIBE is what came last", x.of(0, 2), 3);
        C.due("COIN", x.look(6), -102);
        C.due("glue", x.act(2, 1, 4), true);
        C.due("glue again", x.act(2, 1, 0), true);
        C.due("GLUE", x.of(1, 3), 0);
        C.due("glue beyond", x.act(2, 1, 5), false);
        C.due("glue below", x.act(2, 1, -1), false);
        C.due("free", x.act(3, 1, 99), true);
        C.due("GLUE", x.of(1, 3), NONE);
        C.due("free one that is not glued", x.act(3, 1, 0), false);
        C.due("recall one that is not gone", x.act(4, 0, 0), false);
        C.due("act(5)", x.act(5, 0, 0), false);
        C.due("act(-1)", x.act(-1, 0, 0), false);
        C.due("steps", x.look(17), 6);
        // The minister says fair weather all through a flood and falls.
        x = Checks.court(0, 0, 1, 0);
        x.act(0, 0, 0);
        x.act(2, 0, 4);
        x.set(0, 0, 0);
        C.due("days(1)", x.days(1), 1);
        C.due("GONE", x.of(0, 5), 1);
        C.due("STAND", x.of(0, 4), -32);
        C.due("name one that is gone", x.act(0, 0, 0), false);
        C.due("bribe one that is gone", x.act(1, 0, 5), true);
        C.due("free one that is gone", x.act(3, 0, 0), true);
        C.due("glue one that is gone", x.act(2, 0, 1), true);
        C.due("recall", x.act(4, 0, -1), true);
        C.due("GONE", x.of(0, 5), 0);
        C.due("STAND", x.of(0, 4), 0);
        C.due("GLUE stays", x.of(0, 3), 1);
        C.due("recall again", x.act(4, 0, 0), false);
    }

    private static void promise6DaysErr() {
        // From STATE 0 the first draws are 3960563 and 4673577: 563 of 1000, 1 of 2.
        SackedGlass x = Checks.court(0, 6);
        C.due("a day", x.days(1), 0);
        C.due("SAID is one more", x.of(0, 6), 3);
        C.due("two draws", x.look(10), 1196435762);
        x = Checks.court(0, 5);
        x.days(1);
        C.due("SAID as told", x.of(0, 6), 2);
        C.due("one draw", x.look(10), 1013904223);
        x = Checks.court(0, 0);
        x.days(1);
        C.due("no draw without err", x.look(10), 0);
        x = Checks.court(0, 9);
        x.act(2, 0, 1);
        x.days(1);
        C.due("no draw for one that is glued", x.look(10), 0);
        C.due("SAID is GLUE", x.of(0, 6), 1);
        err(0, 563, 2, 1013904223);
        err(0, 564, 3, 1196435762);
        err(0, 1, 2, 1013904223);
        // From STATE 2 the draws are 567 of 1000 and 0 of 2; from 5 they are 73 and 0.
        err(2, 568, 1, 1975575172);
        err(5, 74, 1, -1150683009);
        x = Checks.court(0, 9);
        x.set(0, 0, 0);
        x.state(5);
        x.days(1);
        C.due("SAID is held to 0", x.of(0, 6), 0);
        C.due("both draws are done", x.look(10), -1150683009);
        x = Checks.court(0, 9);
        x.set(0, 0, 99);
        x.days(1);
        C.due("SAID is held to 4", x.of(0, 6), 4);
        C.due("both draws are done", x.look(10), 1196435762);
        C.due("told rightly though it erred", x.of(0, 4), 1);
    }

    /** A day from this STATE on which one teller errs so much. */
    private static void err(int state, int err, int said, int stateThen) {
        SackedGlass x = Checks.court(0, 0);
        x.state(state);
        Checks.text(x, 0, "err " + err + ";");
        x.days(1);
        C.due("SAID from STATE " + state + " by err " + err, x.of(0, 6), said);
        C.due("STATE from " + state + " by err " + err, x.look(10), stateThen);
    }

    private static void promise6DaysGusts() {
        SackedGlass x = new SackedGlass();
        x.days(1);
        C.due("no draw without gusts", x.look(10), 0);
        x.set(1, 0, 1);
        x.days(1);
        C.due("one draw by gusts of 1", x.look(10), 1013904223);
        x = new SackedGlass();
        x.set(1, 0, 563);
        x.days(1);
        C.due("no gust at 563", x.look(2), 50);
        C.due("one draw", x.look(10), 1013904223);
        x = new SackedGlass();
        x.set(1, 0, 564);
        x.days(1);
        // 4673577 by 21 leaves 6, less 10.
        C.due("a gust at 564", x.look(2), 46);
        x = new SackedGlass();
        x.set(1, 0, 1000);
        x.set(0, 0, 99);
        C.due("rounds", Checks.text(x, 1, "for 30 rise 40;"), 1);
        x.days(1);
        C.due("held to 99 once both came", x.look(2), 99);
        x = new SackedGlass();
        x.set(1, 0, 1000);
        x.set(0, 0, 97);
        Checks.text(x, 1, "for 1 rise 5;");
        x.days(1);
        C.due("97 + 5 - 4", x.look(2), 98);
        x = new SackedGlass();
        Checks.text(x, 1, "for 1 fall 40;for 1 fall 20;");
        x.days(1);
        C.due("50 - 40", x.look(2), 10);
        x.days(1);
        C.due("held to 0", x.look(2), 0);
    }

    private static void promise6DaysStand() {
        SackedGlass x = Checks.court(0, 0, 0, 0);
        x.set(4, 0, 999);
        x.set(4, 1, -998);
        x.set(2, 0, -999);
        x.act(2, 1, 0);
        x.days(1);
        C.due("STAND 999 at most", x.of(0, 4), 999);
        C.due("STAND -999 at least", x.of(1, 4), -999);
        x = Checks.court(0, 0);
        Checks.text(x, 0, "blame off * 40 + day - glass;");
        Checks.text(x, 1, "for 1 rise 10;");
        x.act(2, 0, 1);
        x.set(2, 0, -999);
        x.days(1);
        // GLASS 60 as it is then, two KINDS off, DAY 0.
        C.due("blame by the weather that came", x.of(0, 4), -20);
        x.days(1);
        // GLASS 70, two KINDS off, DAY 1.
        C.due("blame by the law on the next day", x.of(0, 4), -31);
        Checks.text(x, 0, "blame 0 - 5;");
        x.days(1);
        C.due("blame is held to 0", x.of(0, 4), -31);
        Checks.text(x, 0, "blame 9999;");
        x.days(1);
        C.due("blame is held to 99", x.of(0, 4), -130);
    }

    private static void promise6DaysFallAndName() {
        SackedGlass x = Checks.court(0, 0, 1, 0, 2, 0);
        x.set(4, 1, 5);
        x.set(4, 2, 5);
        C.due("nobody falls", x.days(1), 0);
        C.due("of several the least", x.look(4), 1);
        x.set(4, 1, -11);
        C.due("-10 is not below -10", x.days(1), 0);
        C.due("the minister stays though others stand better", x.look(4), 1);
        x.set(4, 1, -12);
        C.due("-11 is below -10", x.days(1), 1);
        C.due("GONE", x.of(1, 5), 1);
        C.due("the next one", x.look(4), 2);
        C.due("SAID stays for the day", x.of(1, 6), 2);
        x.days(1);
        C.due("SAID of those GONE is none", x.of(1, 6), NONE);
        C.due("STAND of those GONE stays", x.of(1, 4), -11);
        // Floods: only KIND 0, only a minister who said 2 at least.
        for (int said = 0; said < 5; said++) {
            x = Checks.court(0, 0, 0, 0);
            x.set(0, 0, 19);
            x.set(2, 0, -999);
            x.act(0, 1, 0);
            x.act(2, 0, 4);
            x.act(2, 1, said);
            x.days(1);
            C.due("FLOODS if " + said + " is said", x.look(5), said >= 2 ? 1 : 0);
            C.due("STAND if " + said + " is said", x.of(1, 4), said == 0 ? 1 : said == 1 ? -3 : -20 - 3 * said);
        }
        x = Checks.court(0, 0);
        x.set(4, 0, -990);
        x.set(2, 0, -999);
        x.set(0, 0, 0);
        x.act(0, 0, 0);
        x.act(2, 0, 4);
        x.days(1);
        C.due("a flood keeps to -999", x.of(0, 4), -999);
        C.due("not below -999", x.look(4), 0);
        // Each day one falls until all are gone.
        x = Checks.court(0, 0, 0, 0, 0, 0);
        for (int t = 0; t < 3; t++) x.set(4, t, -50);
        C.due("all fall", x.days(6), 3);
        C.due("no minister", x.look(4), NONE);
        C.due("days on which any told", x.look(18), 4);
    }

    private static void promise6DaysAgenda() {
        SackedGlass x = Checks.court(0, 0, 1, 0, 2, 0);
        x.act(2, 2, 2);
        C.due("agenda", Checks.text(x, 2, "on 1 tap;on 0 name 1;on 0 name 2;on 1 bribe 0 7;on 1 glue 0 1;"
                + "on 1 tap;on 2 free 0;on 2 free 0;on 2 recall 0;on 999 tap;"), 10);
        x.days(1);
        C.due("the later one is named", x.look(4), 2);
        C.due("COIN as it was", x.look(6), 0);
        x.days(1);
        // A tap of two free ones and one glued, a bribe of 7, a tap of one free and two glued.
        C.due("COIN", x.look(6), 1 - 7 - 1);
        C.due("BRIBE", x.of(0, 2), 7);
        C.due("SAID", x.of(0, 6), 1);
        int lines = x.look(9);
        x.days(1);
        C.due("GLUE", x.of(0, 3), NONE);
        SackedGlass y = Checks.court(0, 0, 0, 0, 0, 0, 0, 0);
        y.act(2, 3, 2);
        Checks.text(y, 2, "on 0 tap;");
        y.days(1);
        C.due("three free ones and one glued", y.look(6), 2);
        C.due("a line freed, one that came, one who told", x.look(9), lines + 3);
        C.line(x, lines, 2, 7, 0, 0);
    }

    private static void promise6DaysBounds() {
        SackedGlass x = new SackedGlass();
        C.due("days(0)", x.days(0), NONE);
        C.due("days(61)", x.days(61), NONE);
        C.due("days(-1)", x.days(-1), NONE);
        C.due("days(MAX)", x.days(Integer.MAX_VALUE), NONE);
        C.due("DAY", x.look(1), 0);
        for (int i = 0; i < 166; i++) x.days(60);
        C.due("DAY", x.look(1), 9960);
        C.due("days(40)", x.days(40), NONE);
        C.due("DAY stays", x.look(1), 9960);
        C.due("days(39)", x.days(39), 0);
        C.due("DAY", x.look(1), 9999);
        C.due("days(1)", x.days(1), NONE);
        C.due("what can be undone stays", x.look(17), 6);
    }

    private static void promise11Of() {
        SackedGlass x = Checks.court(3, 4);
        int[] due = {3, 4, 0, NONE, 0, 0, NONE, 2, 400, 0};
        for (int w = 0; w < 10; w++) C.due("of(0, " + w + ")", x.of(0, w), due[w]);
        C.due("of(0, 10)", x.of(0, 10), NONE - 9999);
        C.due("of(0, -1)", x.of(0, -1), NONE - 9999);
        C.due("of(1, 0)", x.of(1, 0), NONE - 9999);
        C.due("of(-1, 0)", x.of(-1, 0), NONE - 9999);
        x.act(2, 0, 4);
        x.act(1, 0, 6);
        x.days(1);
        C.due("tell is what the law tells, glue or not", x.of(0, 7), 2);
        C.due("blame: 3 times off", x.of(0, 9), 6);
        Checks.text(x, 0, "tell sort*2;err fear*bribe+stand;blame off*10+minister;");
        C.due("tell is held to 4", x.of(0, 7), 4);
        C.due("err", x.of(0, 8), 18);
        C.due("blame", x.of(0, 9), 21);
        Checks.text(x, 0, "tell 0-1;err 1001;err 1;blame 7 when off=1;");
        C.due("tell is held to 0", x.of(0, 7), 0);
        C.due("err is held to 1000", x.of(0, 8), 1000);
        C.due("no line is so", x.of(0, 9), 6);
        Checks.text(x, 0, "tell off+1 when off=0;err 5 when off>0;");
        C.due("off is 0 for tell", x.of(0, 7), 1);
        C.due("off is 0 for err", x.of(0, 8), 400);
        x.set(0, 0, 99);
        C.due("blame when it was right", x.of(0, 9), 0);
        Checks.text(x, 0, "blame 8;");
        C.due("blame by the law though it is right", x.of(0, 9), 8);
    }

    private static void promise12Moves() {
        SackedGlass x = new SackedGlass();
        C.due("moves without rounds", x.moves(77), 0);
        C.sound(x, 1, "for 2 rise 3; for 1 fall 40;\nfor 3 rise 0;", 3);
        int[] due = {3, 3, -40, 0, 0, 0};
        for (int d = 0; d < 20; d++) C.due("moves(" + d + ")", x.moves(d), due[d % 6]);
        C.due("moves(9999)", x.moves(9999), 0);
        C.due("moves(9998)", x.moves(9998), -40);
        C.due("moves(10000)", x.moves(10000), NONE - 99);
        C.due("moves(-1)", x.moves(-1), NONE - 99);
        x.days(2);
        C.due("moves does not go by today", x.moves(0), 3);
    }

    private static void promise13Book() {
        SackedGlass x = Checks.court(0, 0, 1, 0);
        C.due("book(0, 0) of none", x.book(0, 0), NONE - 9999);
        x.act(0, 1, 0);
        x.act(1, 0, 9);
        x.act(2, 1, 3);
        x.days(1);
        x.act(3, 1, 0);
        C.line(x, 0, 0, 4, 1, 0);
        C.line(x, 1, 0, 5, 0, 9);
        C.line(x, 2, 0, 6, 1, 3);
        C.line(x, 3, 0, 0, 2, 50);
        C.line(x, 4, 0, 1, 0, 1);
        C.line(x, 5, 1, 7, 1, 0);
        C.due("lines", x.look(9), 6);
        C.due("book(6, 0)", x.book(6, 0), NONE - 9999);
        C.due("book(-1, 0)", x.book(-1, 0), NONE - 9999);
        C.due("book(0, 4)", x.book(0, 4), NONE - 9999);
        C.due("book(0, -1)", x.book(0, -1), NONE - 9999);
        // A flood, a fall and a naming on one day, then a recall.
        x.act(2, 1, 4);
        x.set(0, 0, 5);
        x.days(1);
        C.line(x, 7, 1, 0, 0, 5);
        C.line(x, 8, 1, 1, 0, 1);
        C.line(x, 9, 1, 2, 1, -35);
        C.line(x, 10, 1, 3, 1, -35);
        C.line(x, 11, 1, 4, 0, 0);
        x.act(4, 1, 0);
        C.line(x, 12, 2, 8, 1, 0);
        x.days(60);
        x.days(60);
        C.due("150 lines at most", x.look(9), 150);
        int last = x.book(149, 0);
        x.days(60);
        C.due("the last line stays", x.book(149, 0), last);
        C.due("book(150, 0)", x.book(150, 0), NONE - 9999);
    }
}
