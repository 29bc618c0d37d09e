/** Promises 14 to 33: what is thought of days, of tellers and of games. */
public final class ThoughtTest {
    private static final int NONE = SackedGlass.NONE;
    private static final Checks C = new Checks();

    public static void main(String[] args) {
        promise14Goes();
        promise15Ahead();
        promise16And17RightAndSurest();
        promise16Record();
        promise18Likely();
        promise19Glued();
        promise20And21SeenAndRound();
        promise22Safe();
        promise23Works();
        promise24And25UmbrellaAndLeaks();
        promise26And27WinsAndWeighs();
        promise28And29PostAndServes();
        promise30Hats();
        promise31And32MixAndMixes();
        promise33Game();
        C.finish("ThoughtTest");
    }

    private static void promise14Goes() {
        // Glued to 4 while it falls to 0: a flood each day from GLASS 19 down.
        SackedGlass x = Checks.court(0, 9, 0, 9);
        x.set(1, 0, 1000);
        x.set(2, 0, -30);
        x.act(2, 0, 4);
        x.act(2, 1, 2);
        x.act(0, 0, 0);
        Checks.text(x, 1, "for 1 fall 40;for 1 rise 0;");
        Checks.text(x, 2, "on 1 tap;on 1 bribe 0 50;on 2 free 1;on 2 tap;");
        // Day 0: GLASS 10, a flood, 0 at -32 falls, 1 at -6 is named. Day 1: a tap of 1 alone, which is glued,
        // a bribe, a flood, 1 at -32 falls. Day 2: nobody is left to be tapped.
        int[][] due = {{1, 1, 10, 0, 0, 0}, {NONE, 2, 10, -51, 0, 0}, {NONE, 2, 0, -51, 0, 0}};
        for (int n = 1; n <= 3; n++) {
            for (int w = 0; w < 6; w++) C.due("goes(" + n + ", " + w + ")", x.goes(n, w), due[n - 1][w]);
        }
        C.due("GLASS stays", x.look(2), 50);
        C.due("DAY stays", x.look(1), 0);
        C.due("STATE stays", x.look(10), 0);
        C.due("lines stay", x.look(9), 3);
        C.due("the record stays", x.look(18), 0);
        C.due("GONE stays", x.of(0, 5), 0);
        C.due("goes(0, 0)", x.goes(0, 0), NONE - 99999);
        C.due("goes(100, 0)", x.goes(100, 0), NONE - 99999);
        C.due("goes(1, 6)", x.goes(1, 6), NONE - 99999);
        C.due("goes(1, -1)", x.goes(1, -1), NONE - 99999);
        C.due("goes(99, 2)", x.goes(99, 2), 0);
        // None errs in thought, and no gust comes; that DAY is counted from the first one.
        x = Checks.court(0, 9);
        x.set(1, 0, 1000);
        x.set(2, 0, -999);
        x.days(5);
        x.set(2, 0, -10);
        x.set(0, 0, 50);
        x.set(4, 0, -12);
        C.due("it falls though it told rightly", x.goes(1, 4), 0);
        C.due("that DAY", x.goes(9, 5), 5);
        x.set(4, 0, -11);
        C.due("nobody falls", x.goes(9, 4), NONE);
        C.due("on no DAY", x.goes(9, 5), NONE);
    }

    private static void promise15Ahead() {
        SackedGlass x = new SackedGlass();
        Checks.text(x, 1, "for 2 rise 30;for 1 fall 40;");
        int[] due = {4, 4, 2, 4, 4, 2};
        // 80, 99, 59, 89, 99, 59
        for (int n = 1; n <= 6; n++) C.due("ahead(" + n + ")", x.ahead(n), due[n - 1]);
        x.days(2);
        C.due("ahead(1) of DAY 2", x.ahead(1), 2);
        C.due("ahead(99)", x.ahead(99), 4);
        C.due("ahead(0)", x.ahead(0), NONE);
        C.due("ahead(100)", x.ahead(100), NONE);
        // 10, held to 0, 19, 38: not a sign more.
        x = new SackedGlass();
        Checks.text(x, 1, "for 2 fall 40;for 2 rise 19;");
        int[] low = {0, 0, 0, 1};
        for (int n = 1; n <= 4; n++) C.due("ahead(" + n + ") from 0", x.ahead(n), low[n - 1]);
        // 90, held to 99, 80, 61: not a sign less.
        Checks.text(x, 1, "for 2 rise 40;for 2 fall 19;");
        int[] high = {4, 4, 4, 3};
        for (int n = 1; n <= 4; n++) C.due("ahead(" + n + ") from 99", x.ahead(n), high[n - 1]);
    }

    private static void promise16And17RightAndSurest() {
        SackedGlass x = Checks.court(0, 0, 0, 0, 0, 0);
        C.due("surest() of no days", x.surest(), NONE);
        SackedGlass y = Checks.court(0, 0, 0, 0);
        y.act(2, 0, 0);
        y.act(2, 1, 0);
        y.days(1);
        C.due("none told rightly: the least", y.surest(), 0);
        C.due("right(0, 0)", x.right(0, 0), 0);
        C.due("right(0, 1)", x.right(0, 1), 0);
        C.due("right(3, 0)", x.right(3, 0), NONE);
        C.due("right(-1, 0)", x.right(-1, 0), NONE);
        C.due("right(0, 2)", x.right(0, 2), NONE);
        C.due("right(0, -1)", x.right(0, -1), NONE);
        x.set(2, 0, -999);
        x.act(2, 0, 0);
        x.days(2);
        x.act(2, 1, 0);
        x.act(2, 2, 0);
        x.days(1);
        C.due("right(0, 0)", x.right(0, 0), 0);
        C.due("right(0, 1)", x.right(0, 1), 3);
        C.due("right(1, 0)", x.right(1, 0), 2);
        C.due("of several the least", x.surest(), 1);
        x.teller(0, 0);
        C.due("one that told on no day is not surest", x.surest(), 1);
        x.days(1);
        C.due("1 of 1 is more than 2 of 4", x.surest(), 3);
        C.due("right(3, 1)", x.right(3, 1), 1);
        // The surest one falls; its record stays.
        x.set(2, 0, 0);
        x.set(4, 3, -50);
        x.act(0, 3, 0);
        x.days(1);
        C.due("GONE", x.of(3, 5), 1);
        C.due("right of one GONE", x.right(3, 0), 2);
        C.due("surest of those not GONE", x.surest(), 1);
    }

    private static void promise16Record() {
        SackedGlass x = Checks.court(0, 0);
        x.set(2, 0, -999);
        x.act(2, 0, 0);
        x.days(60);
        x.act(3, 0, 0);
        x.days(30);
        C.due("90 days", x.look(18), 90);
        C.due("right(0, 0)", x.right(0, 0), 30);
        x.days(5);
        C.due("90 of the latest days", x.look(18), 90);
        C.due("right(0, 0)", x.right(0, 0), 35);
        C.due("right(0, 1)", x.right(0, 1), 90);
        for (int i = 0; i < 5; i++) x.undo();
        C.due("what had gone is there again", x.right(0, 0), 30);
        C.due("on 90 days", x.right(0, 1), 90);
        x.days(60);
        C.due("all of them", x.right(0, 0), 90);
    }

    private static void promise18Likely() {
        SackedGlass x = Checks.court(0, 0, 0, 0);
        for (int k = -2; k <= 5; k++) C.due("likely(" + k + ") if none said anything", x.likely(k), NONE);
        x.set(2, 0, -999);
        Checks.text(x, 1, "for 1 rise 20;for 1 fall 20;");
        x.act(2, 1, 3);
        x.days(4);
        // 0 said 2, 3, 2, 3 while 3, 2, 3, 2 came; 1 said 3 each time. Now 0 SAID 3, 1 SAID 3.
        // KIND 2: 200000 * 3 / 7 = 85714, * 3 / 7 = 36734; KIND 3: * 1 / 7 = 28571, * 3 / 7 = 12244; else 40000, 8000.
        int all = 36734 + 12244 + 3 * 8000;
        C.due("likely(2)", x.likely(2), 36734L * 1000000 / all);
        C.due("likely(3)", x.likely(3), 12244L * 1000000 / all);
        C.due("likely(0)", x.likely(0), 8000L * 1000000 / all);
        C.due("likely(4)", x.likely(4), 8000L * 1000000 / all);
        C.due("BEST", x.likely(NONE), 2);
        C.due("likely(5)", x.likely(5), NONE);
        C.due("likely(-2)", x.likely(-2), NONE);
        x = Checks.court(0, 0);
        x.days(1);
        // Right once: KIND 2: 200000 * 2 / 6; all others 40000.
        C.due("likely(2)", x.likely(2), 66666L * 1000000 / (66666 + 160000));
        for (int k = 0; k < 5; k++) {
            SackedGlass y = Checks.court(0, 0);
            y.set(0, 0, 20 * k);
            y.days(1);
            C.due("BEST is what came", y.likely(NONE), k);
            C.due("likely(" + k + ")", y.likely(k), 66666L * 1000000 / (66666 + 160000));
        }
        // It told 0 twice, and 2 and 3 came.
        SackedGlass z = Checks.court(0, 0);
        z.set(2, 0, -999);
        z.act(2, 0, 0);
        Checks.text(z, 1, "for 1 rise 0;for 1 rise 20;");
        z.days(2);
        C.due("BEST of several the least", z.likely(NONE), 2);
        C.due("likely(3)", z.likely(3), 66666L * 1000000 / (2 * 66666 + 3 * 40000));
        // One that is gone counts no more.
        x.set(4, 0, -50);
        x.days(1);
        C.due("GONE", x.of(0, 5), 1);
        C.due("none that is not GONE said anything", x.likely(2), NONE);
    }

    private static void promise19Glued() {
        SackedGlass x = Checks.court(0, 0, 0, 0, 0, 0);
        C.due("glued() of no days", x.glued(), 0);
        x.set(2, 0, -999);
        Checks.text(x, 1, "for 2 rise 0;for 2 rise 20;");
        x.act(2, 1, 1);
        x.act(2, 2, 0);
        x.days(2);
        C.due("two days are too few", x.glued(), 0);
        x.days(1);
        // 0 told 2 thrice as well, while 2, 2, 3 came.
        C.due("glued()", x.glued(), 7);
        x.days(1);
        C.due("0 told 3 then", x.glued(), 6);
        x.act(2, 2, 1);
        x.days(1);
        C.due("2 told 1 then", x.glued(), 2);
        x.set(2, 0, 0);
        x.set(4, 1, -300);
        x.act(0, 1, 0);
        x.days(1);
        C.due("GONE", x.of(1, 5), 1);
        C.due("one that is GONE too", x.glued(), 2);
        x = Checks.court(0, 0);
        x.set(2, 0, -999);
        x.act(2, 0, 1);
        x.days(20);
        C.due("the same came on all days", x.glued(), 0);
    }

    private static void promise20And21SeenAndRound() {
        SackedGlass x = new SackedGlass();
        C.due("round(NONE) of none", x.round(NONE), NONE);
        C.due("round(0) of none", x.round(0), NONE);
        C.due("seen(100)", x.seen(100), NONE);
        C.due("seen(-2)", x.seen(-2), NONE);
        C.due("seen(99)", x.seen(99), 1);
        C.due("round(NONE) of one", x.round(NONE), 1);
        C.due("round(50) of one", x.round(50), 99);
        C.due("seen(0)", x.seen(0), 2);
        C.due("round(NONE) of two", x.round(NONE), 2);
        C.due("round(1)", x.round(1), 99);
        C.due("round(99)", x.round(99), 99);
        C.due("round(98)", x.round(98), 0);
        C.due("round(100)", x.round(100), NONE);
        C.due("round(-2)", x.round(-2), NONE);
        x.seen(7);
        // 99, 0, 7 and so on
        int[] round = {7, 99, 0, 7, 99};
        for (int n = 0; n < 5; n++) C.due("round(" + n + ") of three", x.round(n), round[n]);
        C.due("seen(NONE)", x.seen(NONE), 0);
        C.due("look(14)", x.look(14), 0);
        int[] seen = {1, 1, 2, 1, 1, 2, 1, 1, 3};
        int[] periods = {1, 1, 3, 3, 3, 3, 3, 3, 9};
        for (int i = 0; i < seen.length; i++) {
            C.due("seen", x.seen(seen[i]), i + 1);
            C.due("round(NONE) of " + (i + 1), x.round(NONE), periods[i]);
        }
        C.due("round(3)", x.round(3), 2);
        x.seen(4);
        x.seen(5);
        C.due("the twelfth", x.seen(6), 12);
        C.due("a thirteenth", x.seen(7), NONE);
        C.due("twelve", x.look(14), 12);
        C.due("the twelfth is the last", x.round(0), 6);
    }

    private static void promise22Safe() {
        SackedGlass x = Checks.court(0, 0);
        // 40 .. 60: KIND 2 twenty times, 3 once.
        C.due("safe(0, 0)", x.safe(0, 0), 2);
        C.due("safe(0, 1)", x.safe(0, 1), -20 + 3);
        Checks.text(x, 1, "for 1 rise 10;for 1 fall 30;");
        // 50 .. 70: KIND 2 ten times, 3 eleven times.
        C.due("by rounds", x.safe(0, 0), 3);
        C.due("how much", x.safe(0, 1), 10 * 3 - 11);
        C.due("GLASS stays", x.look(2), 50);
        // Blame for one kind alone makes another one safe.
        Checks.text(x, 0, "blame 99 when kind=2;blame off;");
        C.due("blamed less by 2", x.safe(0, 0), 2);
        C.due("how much", x.safe(0, 1), -10 + 11);
        Checks.text(x, 0, "blame 0;");
        C.due("by nothing", x.safe(0, 0), 3);
        Checks.text(x, 0, "blame 0-1 when glass<60;blame 9;");
        x.days(1);
        // DAY 1: 60 - 30: 20 .. 40: KIND 1 twenty times, 2 once, all below 60.
        C.due("on the next DAY", x.safe(0, 0), 1);
        C.due("how much", x.safe(0, 1), -20);
        x.set(0, 0, 0);
        Checks.text(x, 0, "");
        C.due("held to 0", x.safe(0, 1), -21);
        C.due("KIND 0", x.safe(0, 0), 0);
        x.set(0, 0, 12);
        Checks.text(x, 1, "");
        Checks.text(x, 0, "blame 1 when glass=22;blame 0;");
        // 2 .. 22: 0 is told rightly 18 times, and blamed once.
        C.due("12 and 10", x.safe(0, 1), -17);
        Checks.text(x, 0, "");
        x.set(0, 0, 99);
        Checks.text(x, 1, "for 1 rise 40;");
        C.due("held to 99", x.safe(0, 1), -21);
        x.set(0, 0, 59);
        Checks.text(x, 1, "for 1 rise 0;for 1 fall 0;");
        Checks.text(x, 0, "blame 20 when glass=69;blame 0;");
        // 49 .. 69: KIND 2 eleven times, 3 ten times: 20 - 11 by saying 2, -10 by saying 3.
        C.due("saying 3", x.safe(0, 0), 3);
        C.due("how much", x.safe(0, 1), -10);
        Checks.text(x, 0, "blame 1 when glass=69;blame 0;");
        C.due("-10 by both: the least", x.safe(0, 0), 2);
        C.due("how much", x.safe(0, 1), -10);
        Checks.text(x, 1, "");
        x.set(0, 0, 50);
        x.set(4, 0, 1);
        Checks.text(x, 0, "blame 5 when day=1 and minister=1 and stand>0;");
        C.due("by its STAND and being MINISTER", x.safe(0, 1), -20 + 5);
        C.due("safe(1, 0)", x.safe(1, 0), NONE - 9999);
        C.due("safe(-1, 0)", x.safe(-1, 0), NONE - 9999);
        C.due("safe(0, 2)", x.safe(0, 2), NONE - 9999);
        C.due("safe(0, -1)", x.safe(0, -1), NONE - 9999);
    }

    private static void promise23Works() {
        SackedGlass x = new SackedGlass();
        Checks.text(x, 1, "for 1 rise 20;for 1 fall 40;for 2 rise 10;");
        // 70, 30, 40, 50, and so on: KINDS 3 1 2 2 3 1 2 2
        C.due("works(1, 3, 8, 0)", x.works(1, 3, 8, 0), 1);
        C.due("works(1, 3, 8, 1)", x.works(1, 3, 8, 1), 2);
        C.due("works(2, 2, 8, 0)", x.works(2, 2, 8, 0), 3);
        C.due("works(3, 2, 8, 0)", x.works(3, 2, 8, 0), 3);
        C.due("works(3, 2, 4, 0)", x.works(3, 2, 4, 0), NONE);
        C.due("works(3, 2, 5, 0)", x.works(3, 2, 5, 0), 3);
        C.due("works(4, 2, 99, 0)", x.works(4, 2, 99, 0), NONE);
        C.due("works(4, 2, 99, 1)", x.works(4, 2, 99, 1), 74);
        C.due("works(1, 3, 1, 0)", x.works(1, 3, 1, 0), 1);
        C.due("works(1, 3, 1, 1)", x.works(1, 3, 1, 1), 1);
        C.due("works(1, 4, 1, 0)", x.works(1, 4, 1, 0), NONE);
        C.due("works(20, 0, 20, 0)", x.works(20, 0, 20, 0), 1);
        C.due("works(20, 0, 19, 0)", x.works(20, 0, 19, 0), NONE);
        C.due("works(20, 0, 19, 1)", x.works(20, 0, 19, 1), 19);
        C.due("works(1, 4, 9, 1)", x.works(1, 4, 9, 1), 0);
        C.due("works(21, 0, 99, 0)", x.works(21, 0, 99, 0), NONE);
        C.due("works(0, 0, 99, 1)", x.works(0, 0, 99, 1), NONE);
        C.due("works(1, 5, 99, 1)", x.works(1, 5, 99, 1), NONE);
        C.due("works(1, -1, 99, 1)", x.works(1, -1, 99, 1), NONE);
        C.due("works(1, 0, 100, 1)", x.works(1, 0, 100, 1), NONE);
        C.due("works(1, 0, 0, 1)", x.works(1, 0, 0, 1), NONE);
        C.due("works(1, 0, 9, 2)", x.works(1, 0, 9, 2), NONE);
        C.due("works(1, 0, 9, -1)", x.works(1, 0, 9, -1), NONE);
        x.days(1);
        C.due("1 is the next one", x.works(2, 2, 8, 0), 2);
    }

    private static void promise24And25UmbrellaAndLeaks() {
        SackedGlass x = Checks.court(0, 0, 0, 0, 0, 0, 0, 0);
        C.due("umbrella(4, 0)", x.umbrella(4, 0), NONE);
        C.due("umbrella(-2, 0)", x.umbrella(-2, 0), NONE);
        C.due("umbrella(0, 12)", x.umbrella(0, 12), NONE);
        C.due("umbrella(0, -1)", x.umbrella(0, -1), NONE);
        C.due("leaks(0, 0) of none", x.leaks(0, 0), 0);
        C.due("leaks(0, 1) of none", x.leaks(0, 1), 0);
        C.due("leaks(1, 0) of none", x.leaks(1, 0), NONE);
        C.due("umbrella(2, 11)", x.umbrella(2, 11), 1);
        C.due("umbrella(2, 3)", x.umbrella(2, 3), 2);
        C.due("ASK of one teller", x.leaks(0, 2), NONE);
        x.umbrella(0, 3);
        x.umbrella(1, 3);
        x.umbrella(1, 4);
        x.umbrella(3, 11);
        int b3 = 1 << 3, b4 = 1 << 4, b11 = 1 << 11;
        C.due("only 0 has but 3", x.leaks(b3, 1), 1);
        C.due("one is fewer than two", x.leaks(b3 | b11, 1), 4);
        C.due("how many", x.leaks(b3 | b11, 0), 1);
        C.due("of several the least", x.leaks(b3 | b4 | b11, 1), 2 | 4);
        C.due("how many", x.leaks(b3 | b4 | b11, 0), 2);
        C.due("only all of it", x.leaks(b4, 0), NONE);
        C.due("the set of none", x.leaks(b4, 1), NONE);
        C.due("nobody took", x.leaks(0, 1), 0);
        C.due("ASK", x.leaks(0, 2), 11);
        C.due("TOOK is not asked for ASK", x.leaks(-1, 2), 11);
        C.due("leaks(4096, 0)", x.leaks(4096, 0), NONE);
        C.due("leaks(-1, 1)", x.leaks(-1, 1), NONE);
        C.due("leaks(8, 3)", x.leaks(8, 3), NONE);
        C.due("leaks(8, -1)", x.leaks(8, -1), NONE);
        for (int i = 7; i <= 20; i++) C.due("umbrella " + i, x.umbrella(0, 3), i);
        C.due("a 21st umbrella", x.umbrella(0, 3), NONE);
        C.due("twenty", x.look(15), 20);
        C.due("umbrella(NONE, 77)", x.umbrella(NONE, 77), 0);
        C.due("none", x.look(15), 0);
        C.due("leaks of none", x.leaks(b3, 0), NONE);
        // Two of two tell 5, one of two tells 7.
        x.umbrella(0, 5);
        x.umbrella(1, 5);
        C.due("ASK: of several the least", x.leaks(0, 2), 0);
        x.umbrella(1, 7);
        C.due("ASK: one of two", x.leaks(0, 2), 7);
        // 0 and 1 together are a lesser set than 2, but more.
        x.umbrella(NONE, 0);
        x.umbrella(0, 0);
        x.umbrella(1, 1);
        x.umbrella(2, 0);
        x.umbrella(2, 1);
        C.due("the fewest, not the least", x.leaks(3, 1), 4);
        C.due("how many", x.leaks(3, 0), 1);
    }

    private static void promise26And27WinsAndWeighs() {
        SackedGlass x = new SackedGlass();
        C.due("wins(0) of none", x.wins(0), NONE);
        C.due("wins(1) of none", x.wins(1), NONE);
        C.due("weighs(0) of none", x.weighs(0), NONE);
        x = Checks.court(0, 9, 0, 5, 0, 6, 0, 2);
        // 1, 5, 4, 8 of 18: more than 9.
        C.due("wins(0)", x.wins(0), 2);
        C.due("of several the least", x.wins(1), 2 | 8);
        C.due("wins(2)", x.wins(2), NONE);
        C.due("wins(-1)", x.wins(-1), NONE);
        int[] weighs = {1, 3, 3, 5};
        // Sets that are turned: of 0: {2, 1}: 9; of 1: 5 .. 9: 4 + 1, 8, 8 + 1; of 2: 5 + 1, 8, 8 + 1.
        for (int t = 0; t < 4; t++) C.due("weighs(" + t + ")", x.weighs(t), weighs[t]);
        C.due("weighs(4)", x.weighs(4), NONE);
        C.due("weighs(-1)", x.weighs(-1), NONE);
        SackedGlass y = Checks.court(0, 0, 0, 9, 0, 9);
        C.due("one alone has more than half", y.wins(0), 1);
        C.due("the set", y.wins(1), 1);
        C.due("weighs(0)", y.weighs(0), 4);
        C.due("weighs(1)", y.weighs(1), 0);
        // Half is not more than half.
        x = Checks.court(0, 5, 0, 5);
        C.due("wins(0)", x.wins(0), 2);
        C.due("weighs(0)", x.weighs(0), 1);
        // One that is gone has no votes.
        x.set(4, 0, -50);
        x.act(0, 0, 0);
        x.days(1);
        C.due("wins(0)", x.wins(0), 1);
        C.due("wins(1)", x.wins(1), 2);
        C.due("weighs(0)", x.weighs(0), 0);
        C.due("weighs(1)", x.weighs(1), 1);
        x = new SackedGlass();
        for (int i = 0; i < 10; i++) x.teller(0, 0);
        C.due("six of ten", x.wins(0), 6);
        C.due("the least six", x.wins(1), 63);
        C.due("any five of nine", x.weighs(7), 126);
    }

    private static void promise28And29PostAndServes() {
        SackedGlass x = Checks.court(0, 0, 1, 0, 1, 0);
        C.due("serves(0) of none", x.serves(0), 0);
        C.due("serves(10) of none", x.serves(10), NONE);
        C.due("post(6, 1)", x.post(6, 1), NONE);
        C.due("post(-2, 1)", x.post(-2, 1), NONE);
        C.due("post(0, 0)", x.post(0, 0), NONE);
        C.due("post(0, 100)", x.post(0, 100), NONE);
        C.due("post(1, 10)", x.post(1, 10), 1);
        C.due("serves(0)", x.serves(0), 20);
        C.due("serves(10)", x.serves(10), 1);
        C.due("post(0, 99)", x.post(0, 99), 2);
        C.due("post(1, 10)", x.post(1, 10), 3);
        C.due("serves(0)", x.serves(0), 20 + 198 + 20);
        C.due("serves(10)", x.serves(10), 1);
        C.due("serves(11)", x.serves(11), 0);
        C.due("serves(12)", x.serves(12), 2);
        C.due("post(5, 10)", x.post(5, 10), 4);
        C.due("more posts than tellers", x.serves(0), 238);
        C.due("nobody is left", x.serves(13), NONE);
        C.due("post(5, 20)", x.post(5, 20), 5);
        // 198 + 20 + 20 either way; nobody last, so the first post keeps 1.
        C.due("serves(0)", x.serves(0), 238);
        int[] due = {1, 0, 2, NONE, NONE, NONE};
        for (int i = 0; i < 6; i++) C.due("serves(" + (10 + i) + ")", x.serves(10 + i), due[i]);
        C.due("post(2, 21)", x.post(2, 21), 6);
        C.due("a seventh post", x.post(2, 21), NONE);
        C.due("serves(0)", x.serves(0), 198 + 21 + 20);
        due = new int[] {1, 0, NONE, NONE, NONE, 2};
        for (int i = 0; i < 6; i++) C.due("serves(" + (10 + i) + ")", x.serves(10 + i), due[i]);
        C.due("serves(16)", x.serves(16), NONE);
        C.due("serves(9)", x.serves(9), NONE);
        C.due("serves(1)", x.serves(1), NONE);
        C.due("serves(-1)", x.serves(-1), NONE);
        C.due("six", x.look(16), 6);
        C.due("post(NONE, 0)", x.post(NONE, 0), 0);
        C.due("post(3, 1)", x.post(3, 1), 1);
        C.due("worth 1", x.serves(0), 1);
        C.due("whom it has", x.serves(10), 0);
        C.due("post(NONE, 0)", x.post(NONE, 0), 0);
        C.due("none", x.look(16), 0);
        // Alike for all: the lesser first.
        x.post(5, 3);
        x.post(5, 3);
        C.due("serves(10)", x.serves(10), 0);
        C.due("serves(11)", x.serves(11), 1);
        x.set(4, 0, -50);
        x.act(0, 0, 0);
        x.days(1);
        C.due("not one that is GONE", x.serves(10), 1);
        C.due("serves(11)", x.serves(11), 2);
        x = new SackedGlass();
        x.post(0, 5);
        C.due("no tellers", x.serves(0), 0);
        C.due("nobody", x.serves(10), NONE);
    }

    private static void promise30Hats() {
        C.due("no hats", new SackedGlass().hats(), 1);
        C.due("one hat", Checks.court(0, 0).hats(), 0);
        C.due("two alike", Checks.court(1, 0, 1, 0).hats(), 0);
        C.due("two", Checks.court(0, 0, 1, 0).hats(), 1);
        C.due("three", Checks.court(0, 0, 1, 0, 2, 0).hats(), 2);
        C.due("four", Checks.court(0, 0, 1, 0, 2, 0, 3, 0).hats(), 9);
        C.due("five", Checks.court(0, 0, 1, 0, 2, 0, 3, 0, 4, 0).hats(), 44);
        C.due("two and two", Checks.court(0, 0, 0, 0, 1, 0, 1, 0).hats(), 4);
        C.due("five and five", Checks.court(0, 0, 1, 0, 0, 0, 1, 0, 0, 0, 1, 0, 0, 0, 1, 0, 0, 0, 1, 0).hats(), 14400);
        SackedGlass x = Checks.court(0, 0, 1, 0, 2, 0, 3, 0);
        x.set(4, 2, -50);
        x.act(0, 2, 0);
        x.days(1);
        C.due("three are not GONE", x.hats(), 2);
    }

    private static void promise31And32MixAndMixes() {
        SackedGlass x = new SackedGlass();
        C.due("mix(-1, 0)", x.mix(-1, 0), false);
        C.due("mix(4, 0)", x.mix(4, 0), false);
        C.due("mix(0, -1)", x.mix(0, -1), false);
        C.due("mix(0, 100)", x.mix(0, 100), false);
        C.due("mixes(0) of none", x.mixes(0), 0);
        C.due("mixes(2)", x.mixes(2), NONE);
        C.due("mixes(-1)", x.mixes(-1), NONE);
        mixes(x, 0, 0, 99, 99, 1000, 99000);
        mixes(x, 99, 99, 0, 0, 0, 99000);
        mixes(x, 1, 0, 0, 1, 500, 500);
        mixes(x, 2, 0, 0, 1, 666, 666);
        mixes(x, 0, 3, 3, 0, 500, 1500);
        mixes(x, 10, 40, 30, 20, 750, 25000);
        mixes(x, 5, 9, 5, 9, 0, 5000);
        mixes(x, 5, 0, 5, 9, 556, 5000);
    }

    private static void mixes(SackedGlass x, int a, int b, int c, int d, int p, int sum) {
        int[] v = {a, b, c, d};
        for (int k = 0; k < 4; k++) C.due("mix(" + k + ", " + v[k] + ")", x.mix(k, v[k]), true);
        C.due("p of " + a + " " + b + " " + c + " " + d, x.mixes(0), p);
        C.due("sum of " + a + " " + b + " " + c + " " + d, x.mixes(1), sum);
    }

    private static void promise33Game() {
        game(NONE, NONE);
        game(NONE, NONE, 0);
        game(NONE, NONE, 0, 3, 6, 9);
        game(0, 1, 1);
        game(0, 2, 2);
        game(0, 1, 4);
        game(0, 2, 8);
        game(NONE, NONE, 1, 1);
        game(1, 1, 1, 2);
        game(0, 1, 2, 1);
        // 2 and 2 and 4: what is left by 3 is 2, 2, 1: 4 becomes 3.
        game(2, 1, 2, 2, 4);
        // 1 and 3: 0 is tapped to nothing, or 3 to 1 by two.
        game(0, 1, 1, 3);
        game(1, 2, 0, 5, 6);
        // 3 and 1: taking 2 of 3 leaves 1 and 1.
        game(0, 2, 3, 1);
        SackedGlass x = Checks.court(0, 1);
        C.due("game(2)", x.game(2), NONE);
        C.due("game(-1)", x.game(-1), NONE);
        x.teller(0, 1);
        x.set(4, 0, -50);
        x.set(1, 0, 0);
        x.act(0, 0, 0);
        x.act(2, 0, 2);
        x.days(1);
        C.due("not one that is GONE", x.game(0), 1);
        C.due("how many", x.game(1), 1);
    }

    private static void game(int teller, int many, int... fears) {
        SackedGlass x = new SackedGlass();
        for (int f : fears) x.teller(0, f);
        String of = java.util.Arrays.toString(fears);
        C.due("game(0) of " + of, x.game(0), teller);
        C.due("game(1) of " + of, x.game(1), many);
    }
}
