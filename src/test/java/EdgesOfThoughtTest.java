/** The boundaries that the document names of what is thought (4), of undoing and of the image. */
public final class EdgesOfThoughtTest {
    private static final int NONE = SackedGlass.NONE;
    private static final int ZERO_NEXT = 457;
    private static final Sentences S = new Sentences();
    private static final Checks C = S.checks;

    public static void main(String[] args) {
        S.says("IN THOUGHT (nothing of it stays; no DRAWS: none errs, no gusts)", EdgesOfThoughtTest::nothingStays);
        S.says("nothing of it stays", EdgesOfThoughtTest::thoughtsApart);
        S.says("GOES for n (1 .. 99) DAYS", EdgesOfThoughtTest::goesDays);
        S.says("the first who falls in these (of several on one DAY the least), that DAY", EdgesOfThoughtTest::firstFall);
        S.says("of the n-th day from now (1 .. 99) what comes", EdgesOfThoughtTest::kindsAhead);
        S.says("RIGHT of a TELLER by its RECORD: how often; on how many days", EdgesOfThoughtTest::right);
        S.says("of those not GONE who told on a day at least the one with the greatest share of right ones "
                + "(compared exactly; of several the least)", EdgesOfThoughtTest::surest);
        S.says("of TELLERS not GONE with SAID, one behind the other", EdgesOfThoughtTest::likelyByWhom);
        S.says("for each KIND, downwards", EdgesOfThoughtTest::likelyDownwards);
        S.says("LIKELY is that q of a million of all five together, downwards (all 0: 0)", EdgesOfThoughtTest::likelyOfNothing);
        S.says("the KIND with greatest LIKELY q (of several the least)", EdgesOfThoughtTest::best);
        S.says("TELLERS (GONE too) that told on 3 days at least and the same each time, while not the same came on all "
                + "of these", EdgesOfThoughtTest::glued);
        S.says("SEEN, up to 12 told: GLASS 0 .. 99 on days one behind the other", EdgesOfThoughtTest::seen);
        S.says("the least p (1 .. as many as are told) such that each is that of p days ahead of it",
                EdgesOfThoughtTest::period);
        S.says("AHEAD n (0 .. 99): what it is n days behind the last one by that", EdgesOfThoughtTest::aheadOfRound);
        S.says("GLASS moved besides by each of -10 .. 10 (0 .. 99) once", EdgesOfThoughtTest::safeBounds);
        S.says("the KIND 0 .. 4 by which it would be blamed least in all", EdgesOfThoughtTest::safeKinds);
        S.says("(blame with what it says; told rightly: 1 less): of several the least", EdgesOfThoughtTest::safeTies);
        S.says("WORKS of d days (1 .. 20) on which KIND is k at least, within n (1 .. 99) days of thought",
                EdgesOfThoughtTest::works);
        S.says("the first of these (1 the next one) at which so many days one behind the other begin",
                EdgesOfThoughtTest::worksBegin);
        S.says("UMBRELLAS, up to 20 told: TELLER a tells courtier b (0 .. 11)", EdgesOfThoughtTest::umbrellas);
        S.says("the fewest TELLERS whose courtiers are all in TOOK and together all of it: how many; the set "
                + "(of several the least)", EdgesOfThoughtTest::leaks);
        S.says("the greater number is least; of several the least", EdgesOfThoughtTest::ask);
        S.says("each TELLER not GONE has 10 less FEAR", EdgesOfThoughtTest::votes);
        S.says("the fewest TELLERS with more than half of all; the set (of several the least)", EdgesOfThoughtTest::wins);
        S.says("in how many sets of all others not GONE it turns no more than half into more", EdgesOfThoughtTest::weighs);
        S.says("POSTS, up to 6 told: a SORT 0 .. 5 and a worth 1 .. 99", EdgesOfThoughtTest::posts);
        S.says("each post to a TELLER not GONE at most, each TELLER to one post at most", EdgesOfThoughtTest::servesOnce);
        S.says("whom a post has: of several ways the first (post by post, the lesser, nobody last)",
                EdgesOfThoughtTest::servesFirst);
        S.says("so that none has its own nor one of the same SORT", EdgesOfThoughtTest::hats);
        S.says("MIXES of four told numbers (0 .. 99; truth or ease by truth or ease)", EdgesOfThoughtTest::mixNumbers);
        S.says("p 0 .. 1000 for which the lesser one of both sums is greatest; of several the least; that sum",
                EdgesOfThoughtTest::mixes);
        S.says("the TELLER (of several the least), how many (the fewest) who begins well taps", EdgesOfThoughtTest::game);
        S.says("the latest DAY, NAMING, BRIBING, GLUEING, FREEING, RECALLING not undone yet goes back (STATE, THE BOOK, "
                + "THE RECORD, too)", EdgesOfThoughtTest::goesBack);
        S.says("6 are kept", EdgesOfThoughtTest::sixSteps);
        S.says("whatever else is told but THE LAW, SEEN, UMBRELLAS, POSTS, MIXES (the taking of THE IMAGE does not) "
                + "forgets them", EdgesOfThoughtTest::forgets);
        S.says("all that is and was told but the TAPE, fault() and what can be undone (nothing then), as it was when it "
                + "was taken", EdgesOfThoughtTest::image);
        S.says("gone back to it may be more than once", EdgesOfThoughtTest::imageAgain);
        S.finish("EdgesOfThoughtTest");
    }

    /** Tellers without fear, all of SORT 0. */
    private static SackedGlass some(int tellers) {
        SackedGlass x = new SackedGlass();
        for (int i = 0; i < tellers; i++) x.teller(0, 0);
        return x;
    }

    /** Lets a teller fall by naming it; the day that goes by has no gusts. */
    private static void dismiss(SackedGlass x, int teller) {
        x.set(4, teller, -50);
        x.act(0, teller, 0);
        x.days(1);
        C.due("GONE", x.of(teller, 5), 1);
    }

    private static void nothingStays() {
        SackedGlass x = Checks.court(0, 9, 1, 9);
        x.set(1, 0, 1000);
        x.act(2, 0, 4);
        x.act(0, 0, 0);
        Checks.text(x, 1, "for 1 fall 40;");
        Checks.text(x, 2, "on 1 bribe 1 9;on 2 glue 1 0;");
        x.days(1);
        int[] was = Checks.all(x);
        x.goes(99, 0);
        x.ahead(99);
        x.works(20, 0, 99, 0);
        x.safe(0, 0);
        x.safe(1, 1);
        C.unchanged(x, was);
        SackedGlass y = Checks.court(0, 9);
        y.set(1, 0, 1000);
        C.due("no gust comes in thought", y.goes(50, 2), 50);
        y.set(4, 0, -10);
        y.act(0, 0, 0);
        C.due("none errs in thought", y.goes(50, 4), NONE);
        C.due("STATE", y.look(10), 0);
        // From this STATE 0 of 1000 is drawn, which is below any err.
        y.state(ZERO_NEXT);
        C.due("none errs by that", y.goes(1, 4), NONE);
        C.due("GLASS", y.goes(1, 2), 50);
        y.set(1, 0, 0);
        y.days(1);
        C.due("it does by day", y.of(0, 6) != 2, true);
    }

    /** One thought, of those that go over sets of tellers. */
    private static int thought(SackedGlass x, int which) {
        switch (which) {
            case 0: return x.hats();
            case 1: return x.serves(0);
            case 2: return x.serves(11);
            case 3: return x.wins(1);
            case 4: return x.weighs(1);
            case 5: return x.leaks(5, 1);
            default: return x.leaks(0, 1);
        }
    }

    private static SackedGlass thinker() {
        SackedGlass x = Checks.court(0, 2, 1, 5, 2, 6);
        x.post(1, 9);
        x.post(2, 7);
        x.umbrella(0, 0);
        x.umbrella(1, 2);
        return x;
    }

    /** What one thought leaves behind does not reach the next one. */
    private static void thoughtsApart() {
        int[] due = {2, 32, 2, 3, 2, 3, 0};
        for (int first = 0; first < due.length; first++) {
            for (int second = 0; second < due.length; second++) {
                SackedGlass x = thinker();
                C.due("thought " + first, thought(x, first), due[first]);
                C.due("thought " + second + " behind " + first, thought(x, second), due[second]);
            }
        }
    }

    private static void goesDays() {
        SackedGlass x = new SackedGlass();
        Checks.text(x, 1, "for 30 rise 0;for 30 rise 0;for 30 rise 0;for 8 rise 0;for 1 rise 3;");
        C.due("goes(0, 2)", x.goes(0, 2), NONE - 99999);
        C.due("goes(1, 2)", x.goes(1, 2), 50);
        C.due("goes(98, 2)", x.goes(98, 2), 50);
        C.due("goes(99, 2)", x.goes(99, 2), 53);
        C.due("goes(100, 2)", x.goes(100, 2), NONE - 99999);
        // Thought goes on behind the last DAY.
        for (int i = 0; i < 166; i++) x.days(60);
        x.days(39);
        Checks.text(x, 1, "for 1 rise 1;");
        x.set(0, 0, 0);
        C.due("99 days from DAY 9999 on", x.goes(99, 2), 99);
        C.due("98 days from DAY 9999 on", x.goes(98, 2), 98);
        // What there is already counts.
        SackedGlass y = some(1);
        y.set(2, 0, -999);
        y.set(0, 0, 0);
        y.act(0, 0, 0);
        y.act(2, 0, 4);
        y.act(1, 0, 7);
        y.days(2);
        C.due("FLOODS", y.goes(3, 1), 5);
        C.due("COIN", y.goes(3, 3), -7);
    }

    private static void firstFall() {
        SackedGlass x = some(3);
        for (int t = 0; t < 3; t++) x.set(4, t, -50 - t);
        x.act(0, 2, 0);
        C.due("the minister falls first", x.goes(1, 4), 2);
        C.due("on DAY 0", x.goes(1, 5), 0);
        C.due("the first, though others fall behind it", x.goes(9, 4), 2);
        C.due("that DAY", x.goes(9, 5), 0);
        C.due("all have fallen by then", x.goes(9, 0), NONE);
        x = some(1);
        x.set(4, 0, -12);
        x.days(1);
        x.act(2, 0, 0);
        C.due("nobody yet named falls on that day", x.look(4), 0);
        C.due("-11 and 6 less", x.goes(1, 4), 0);
        C.due("on DAY 1", x.goes(1, 5), 1);
        x.set(4, 0, 0);
        // 6 less each day: -12 in the evening of the second one.
        C.due("not on the first day", x.goes(1, 4), NONE);
        C.due("on no DAY", x.goes(1, 5), NONE);
        C.due("on the second one", x.goes(2, 4), 0);
        C.due("that is DAY 2", x.goes(2, 5), 2);
    }

    private static void kindsAhead() {
        SackedGlass x = new SackedGlass();
        Checks.text(x, 1, "for 30 rise 0;for 30 rise 0;for 30 rise 0;for 8 rise 0;for 1 rise 10;");
        C.due("ahead(0)", x.ahead(0), NONE);
        C.due("ahead(1)", x.ahead(1), 2);
        C.due("ahead(98)", x.ahead(98), 2);
        C.due("ahead(99)", x.ahead(99), 3);
        C.due("ahead(100)", x.ahead(100), NONE);
        Checks.text(x, 1, "for 1 rise 20;for 1 fall 20;");
        C.due("ahead(1)", x.ahead(1), 3);
        C.due("ahead(2)", x.ahead(2), 2);
        Checks.text(x, 1, "for 2 fall 40;for 2 rise 19;");
        // 10, 0, 19, 38
        int[] low = {0, 0, 0, 1};
        for (int n = 1; n <= 4; n++) C.due("ahead(" + n + ") from 0", x.ahead(n), low[n - 1]);
        Checks.text(x, 1, "for 3 rise 40;for 1 fall 19;for 1 fall 1;for 4 fall 40;for 1 rise 20;");
        // 90, 99, 99, 80, 79, 39, 0, 0, 0, 20
        int[] kinds = {4, 4, 4, 4, 3, 1, 0, 0, 0, 1};
        for (int n = 1; n <= 10; n++) C.due("ahead(" + n + ")", x.ahead(n), kinds[n - 1]);
    }

    private static void right() {
        SackedGlass x = some(2);
        C.due("how often without days", x.right(0, 0), 0);
        C.due("on how many days", x.right(0, 1), 0);
        x.set(2, 0, -999);
        x.act(2, 1, 0);
        x.days(60);
        x.days(60);
        C.due("90 of 90", x.right(0, 0), 90);
        C.due("days", x.right(0, 1), 90);
        C.due("0 of 90", x.right(1, 0), 0);
        C.due("days", x.right(1, 1), 90);
    }

    private static void surest() {
        SackedGlass x = some(2);
        C.due("none told on a day", x.surest(), NONE);
        x.set(2, 0, -999);
        x.act(2, 0, 0);
        x.act(2, 1, 1);
        x.days(1);
        C.due("none told rightly: the least", x.surest(), 0);
        x.act(2, 1, 2);
        x.days(1);
        C.due("one of two is more than none", x.surest(), 1);
        SackedGlass y = some(1);
        y.set(2, 0, -999);
        y.days(1);
        y.act(2, 0, 0);
        y.days(2);
        y.teller(0, 0);
        y.days(28);
        y.act(2, 0, 2);
        y.days(28);
        y.act(2, 1, 0);
        y.days(26);
        // 0: 1 + 28 + 26 = 55 of 85; 1: 28 + 28 = 56 of 82.
        C.due("right of 0", y.right(0, 0), 55);
        C.due("days of 0", y.right(0, 1), 85);
        C.due("right of 1", y.right(1, 0), 56);
        C.due("days of 1", y.right(1, 1), 82);
        C.due("56 of 82 is more than 55 of 85", y.surest(), 1);
        exactShares();
        // Alike: 1 of 2 and 2 of 4.
        SackedGlass z = some(1);
        z.set(2, 0, -999);
        z.days(1);
        z.act(2, 0, 0);
        z.days(1);
        z.teller(0, 0);
        z.act(3, 0, 0);
        z.days(1);
        z.act(2, 0, 0);
        z.act(2, 1, 0);
        z.days(1);
        C.due("2 of 4", z.right(0, 0) * 10 + z.right(0, 1), 24);
        C.due("1 of 2", z.right(1, 0) * 10 + z.right(1, 1), 12);
        C.due("of several the least", z.surest(), 0);
        // Those that are GONE do not count; the last one falling leaves none.
        dismissAnyhow(z, 0);
        C.due("not one that is GONE", z.surest(), 1);
        dismissAnyhow(z, 1);
        C.due("none", z.surest(), NONE);
    }

    /** Lets a teller fall where FALLS is too low for that. */
    private static void dismissAnyhow(SackedGlass x, int teller) {
        x.set(2, 0, 0);
        dismiss(x, teller);
    }

    /** 44 of 89 and 43 of 87 are the same of a hundred, and of a thousand: 494. */
    private static void exactShares() {
        SackedGlass x = some(1);
        x.set(2, 0, -999);
        x.days(1);
        x.act(2, 0, 0);
        x.days(1);
        x.teller(0, 0);
        x.act(2, 1, 0);
        x.days(44);
        x.act(2, 0, 2);
        x.act(2, 1, 2);
        x.days(43);
        C.due("right of 0", x.right(0, 0), 44);
        C.due("days of 0", x.right(0, 1), 89);
        C.due("right of 1", x.right(1, 0), 43);
        C.due("days of 1", x.right(1, 1), 87);
        // 44 * 87 = 3828, 43 * 89 = 3827.
        C.due("44 of 89 is more than 43 of 87", x.surest(), 0);
    }

    private static void likelyByWhom() {
        SackedGlass x = some(2);
        C.due("none SAID anything", x.likely(2), NONE);
        C.due("BEST", x.likely(NONE), NONE);
        x.days(1);
        // Both told 2 rightly: 200000 * 2 / 6 * 2 / 6 = 22222 of that and four times 8000.
        C.due("by both", x.likely(2), 22222L * 1000000 / (22222 + 4 * 8000));
        x.teller(0, 0);
        C.due("one who SAID nothing does not count", x.likely(2), 22222L * 1000000 / (22222 + 4 * 8000));
        SackedGlass y = some(2);
        dismiss(y, 1);
        C.due("one GONE does not count", y.likely(2), 66666L * 1000000 / (66666 + 4 * 40000));
        // One who came late has not told on the first day: 200000 * 3 / 7 * 2 / 6, else 8000.
        SackedGlass late = some(1);
        late.days(1);
        late.teller(0, 0);
        late.days(1);
        C.due("85714 and 28571", late.likely(2), 28571L * 1000000 / (28571 + 4 * 8000));
        dismiss(y, 0);
        C.due("all are GONE", y.likely(2), NONE);
        C.due("BEST", y.likely(NONE), NONE);
    }

    private static void likelyDownwards() {
        SackedGlass x = some(7);
        x.days(1);
        // Down at each teller: 66666, 22222, 7407, 2469, 823, 274, 91; else 40000, 8000, 1600, 320, 64, 12, 2.
        C.due("likely(2)", x.likely(2), 91L * 1000000 / 99);
        C.due("likely(0)", x.likely(0), 2L * 1000000 / 99);
        C.due("likely(4)", x.likely(4), 2L * 1000000 / 99);
    }

    private static void likelyOfNothing() {
        SackedGlass x = some(8);
        x.set(2, 0, -999);
        x.days(60);
        x.days(30);
        for (int t = 0; t < 8; t++) x.act(2, t, 0);
        x.days(1);
        // 2 came on all of 90 days, each told 0 on the last one: 200000 * 2 / 95 = 4210, 88, 1, 0. What never came:
        // 40000, 8000, 1600, 320, 64, 12, 2, 0.
        for (int k = 0; k < 5; k++) C.due("likely(" + k + ") of all 0", x.likely(k), 0);
        C.due("BEST of all 0", x.likely(NONE), 0);
        SackedGlass y = some(10);
        y.days(1);
        // 30, 10, 3 for what came, 0 for all else.
        C.due("the whole million", y.likely(2), 1000000);
        C.due("nothing", y.likely(3), 0);
        // 0 and 1 told 2 twice, the others 2 and 0: 85714, 36734, then * 2 / 7: 10495, 2998, 856, 244, 69, 19, 5, 1.
        SackedGlass z = some(10);
        z.days(1);
        for (int t = 2; t < 10; t++) z.act(2, t, 0);
        z.days(1);
        C.due("1 of 1", z.likely(2), 1000000);
        C.due("0 of 1", z.likely(1), 0);
        C.due("BEST", z.likely(NONE), 2);
    }

    private static void best() {
        for (int kind = 0; kind < 5; kind++) {
            SackedGlass x = some(1);
            x.set(0, 0, 20 * kind);
            x.days(1);
            C.due("BEST is what came", x.likely(NONE), kind);
            C.due("likely(" + kind + ")", x.likely(kind), 66666L * 1000000 / (66666 + 4 * 40000));
        }
        SackedGlass x = some(1);
        x.set(2, 0, -999);
        x.act(2, 0, 0);
        Checks.text(x, 1, "for 1 rise 20;for 1 rise 20;for 1 fall 40;");
        x.days(2);
        // 3 and 4 came once each while it told 0.
        C.due("likely(3) and likely(4) are alike", x.likely(3), x.likely(4));
        C.due("of several the least", x.likely(NONE), 3);
    }

    private static void glued() {
        SackedGlass x = some(10);
        C.due("no days", x.glued(), 0);
        x.set(2, 0, -999);
        Checks.text(x, 1, "for 1 rise 0;for 1 rise 20;for 1 fall 20;");
        for (int t = 0; t < 10; t++) x.act(2, t, t % 5);
        x.days(2);
        C.due("two days", x.glued(), 0);
        x.days(1);
        C.due("three days, 2 3 2 came", x.glued(), 1023);
        x.act(2, 9, 0);
        x.days(1);
        C.due("9 told another one", x.glued(), 511);
        x.set(2, 0, 0);
        x.act(3, 8, 0);
        dismiss(x, 0);
        C.due("GONE too; 8 told 2 then", x.glued(), 255);
        SackedGlass y = some(1);
        y.set(2, 0, -999);
        y.act(2, 0, 2);
        y.days(30);
        C.due("the same came on all days", y.glued(), 0);
        y.set(0, 0, 0);
        y.days(1);
        C.due("until another one came", y.glued(), 1);
        // On days on which it did not tell another KIND may come.
        SackedGlass z = some(1);
        z.set(0, 0, 0);
        z.days(1);
        z.teller(0, 0);
        z.set(0, 0, 50);
        z.act(2, 1, 1);
        z.days(3);
        C.due("the same came on all of its days", z.glued(), 0);
        z.set(0, 0, 0);
        z.days(1);
        C.due("now not", z.glued(), 2);
    }

    private static void seen() {
        SackedGlass x = new SackedGlass();
        C.due("seen(-2)", x.seen(-2), NONE);
        C.due("seen(100)", x.seen(100), NONE);
        C.due("none", x.look(14), 0);
        C.due("seen(0)", x.seen(0), 1);
        C.due("seen(99)", x.seen(99), 2);
        for (int i = 3; i <= 12; i++) C.due("seen", x.seen(i), i);
        C.due("a thirteenth", x.seen(13), NONE);
        C.due("twelve", x.look(14), 12);
        C.due("the twelfth stays the last one", x.round(0), 12);
        C.due("told anew", x.seen(NONE), 0);
        C.due("the first", x.seen(7), 1);
    }

    /** What ROUND is of these. */
    private static void roundOf(int p, int... glass) {
        SackedGlass x = new SackedGlass();
        for (int g : glass) x.seen(g);
        C.due("ROUND of " + java.util.Arrays.toString(glass), x.round(NONE), p);
    }

    private static void period() {
        roundOf(NONE);
        roundOf(1, 0);
        roundOf(1, 5, 5);
        roundOf(2, 5, 6);
        roundOf(2, 5, 6, 5);
        roundOf(3, 5, 6, 6);
        roundOf(3, 5, 5, 6, 5, 5);
        roundOf(4, 5, 6, 7, 6);
        roundOf(1, 9, 9, 9, 9, 9, 9, 9, 9, 9, 9, 9, 9);
        roundOf(12, 9, 9, 9, 9, 9, 9, 9, 9, 9, 9, 9, 8);
        roundOf(11, 9, 8, 8, 8, 8, 8, 8, 8, 8, 8, 8, 9);
        roundOf(6, 1, 2, 3, 1, 2, 4, 1, 2, 3, 1, 2, 4);
        roundOf(12, 1, 2, 3, 1, 2, 3, 1, 2, 3, 1, 2, 4);
    }

    private static void aheadOfRound() {
        SackedGlass x = new SackedGlass();
        C.due("without any", x.round(0), NONE);
        x.seen(3);
        C.due("round(0) of one", x.round(0), 3);
        C.due("round(99) of one", x.round(99), 3);
        x.seen(4);
        x.seen(5);
        x.seen(6);
        x.seen(3);
        // 3 4 5 6 3 and then 4 5 6 3
        int[] due = {3, 4, 5, 6};
        for (int n = 0; n <= 99; n++) C.due("round(" + n + ")", x.round(n), due[n % 4]);
        C.due("round(100)", x.round(100), NONE);
        C.due("round(-2)", x.round(-2), NONE);
    }

    private static void safeBounds() {
        SackedGlass x = some(1);
        // 0 held ten times, and once by itself; 1 .. 10 once each.
        Checks.text(x, 0, "tell 0;blame 1 when glass=0;blame 50;");
        x.set(0, 0, 0);
        C.due("KIND 0 is safe", x.safe(0, 0), 0);
        C.due("21 times right", x.safe(0, 1), -21);
        Checks.text(x, 0, "blame 1;");
        x.set(0, 0, 10);
        C.due("0 .. 20: right twenty times", x.safe(0, 1), -19);
        x.set(0, 0, 9);
        C.due("0 .. 19", x.safe(0, 1), -21);
        x.set(0, 0, 89);
        C.due("79 .. 99", x.safe(0, 1), -19);
        x.set(0, 0, 90);
        C.due("80 .. 99, held once", x.safe(0, 1), -21);
        // Told 2 while 40 .. 60 come: 60 alone is wrong; told 3 while 50 .. 70: 50 .. 59 are wrong.
        Checks.text(x, 0, "blame glass;");
        x.set(0, 0, 50);
        C.due("60 alone is blamed", x.safe(0, 1), -20 + 60);
        x.set(0, 0, 49);
        C.due("39 alone is blamed", x.safe(0, 1), -20 + 39);
        // 0 .. 20 and 79 .. 99: the last one makes the other KIND safer, which is blamed for the first one alone.
        Checks.text(x, 0, "blame 99 when glass=20;blame 5 when glass=0;blame 0;");
        x.set(0, 0, 10);
        C.due("KIND 1", x.safe(0, 0), 1);
        C.due("0 comes once", x.safe(0, 1), 5 - 1);
        Checks.text(x, 0, "blame 99 when glass=79;blame 5 when glass=99;blame 0;");
        x.set(0, 0, 89);
        C.due("KIND 3", x.safe(0, 0), 3);
        C.due("99 comes once", x.safe(0, 1), 5 - 1);
        Checks.text(x, 0, "blame 99 when glass>98;blame 0;");
        x.set(0, 0, 70);
        Checks.text(x, 1, "for 1 rise 40;");
        C.due("110 is held to 99 all along", x.safe(0, 1), -21);
        C.due("KIND 4", x.safe(0, 0), 4);
        x.set(0, 0, 30);
        Checks.text(x, 1, "for 1 fall 40;");
        C.due("-10 is held to 0 all along", x.safe(0, 1), -21);
        C.due("KIND 0", x.safe(0, 0), 0);
    }

    private static void safeKinds() {
        SackedGlass x = some(1);
        for (int kind = 0; kind < 5; kind++) {
            x.set(0, 0, 20 * kind + 9);
            C.due("KIND " + kind, x.safe(0, 0), kind);
        }
        // 29 .. 49: 1 comes eleven times, 2 ten times; from 5 on nothing would be blamed.
        Checks.text(x, 0, "blame 99 when off<3;blame 0;");
        x.set(0, 0, 39);
        C.due("not beyond 4", x.safe(0, 0), 1);
        C.due("ten times 99, eleven times right", x.safe(0, 1), 990 - 11);
        // 49 .. 69: 2 comes eleven times, 3 ten times; below 0 nothing would be blamed.
        x.set(0, 0, 59);
        C.due("not below 0", x.safe(0, 0), 2);
        C.due("ten times 99, eleven times right", x.safe(0, 1), 990 - 11);
    }

    private static void safeTies() {
        SackedGlass x = some(1);
        Checks.text(x, 0, "blame 0;");
        x.set(0, 0, 59);
        // 49 .. 69: 2 is right eleven times, 3 ten times.
        C.due("told rightly: 1 less", x.safe(0, 1), -11);
        C.due("KIND 2", x.safe(0, 0), 2);
        Checks.text(x, 0, "blame 1 when glass=69;blame 0;");
        C.due("10 less by both", x.safe(0, 1), -10);
        C.due("of several the least", x.safe(0, 0), 2);
        Checks.text(x, 0, "blame 2 when glass=69;blame 0;");
        C.due("3 is safer then", x.safe(0, 0), 3);
        // Blame goes by what it says: by off.
        Checks.text(x, 0, "blame 50 when off<3;blame 0;");
        // 2 is right eleven times and 1 off ten times; 0 is 2 off eleven times and 3 off ten times.
        C.due("right more often", x.safe(0, 0), 2);
        C.due("ten times 50, eleven times right", x.safe(0, 1), 10 * 50 - 11);
        Checks.text(x, 0, "blame 99 when off=1;blame 0;");
        // 2 and 3 are 1 off at times, 1 and 4 too; 0 never is.
        C.due("as far off as can be", x.safe(0, 0), 0);
        C.due("nothing", x.safe(0, 1), 0);
    }

    private static void works() {
        SackedGlass x = new SackedGlass();
        for (int k = 0; k <= 2; k++) C.due("works(1, " + k + ", 1, 1)", x.works(1, k, 1, 1), 1);
        for (int k = 3; k <= 4; k++) C.due("works(1, " + k + ", 1, 1)", x.works(1, k, 1, 1), 0);
        C.due("20 days of 99", x.works(20, 2, 99, 0), 1);
        C.due("99 days", x.works(20, 2, 99, 1), 99);
        C.due("20 days of 20", x.works(20, 2, 20, 0), 1);
        C.due("20 days of 19", x.works(20, 2, 19, 0), NONE);
        C.due("0 days", x.works(0, 2, 99, 0), NONE);
        C.due("21 days", x.works(21, 2, 99, 0), NONE);
        C.due("within 0", x.works(1, 2, 0, 0), NONE);
        C.due("within 100", x.works(1, 2, 100, 0), NONE);
        C.due("KIND -1", x.works(1, -1, 99, 0), NONE);
        C.due("KIND 5", x.works(1, 5, 99, 0), NONE);
    }

    private static void worksBegin() {
        SackedGlass x = new SackedGlass();
        Checks.text(x, 1, "for 1 rise 20;for 1 fall 20;for 2 rise 20;for 1 fall 40;");
        // 70 50 70 90 50, and so on: KINDS 3 2 3 4 2 3 2 3 4 2
        C.due("one day of 3", x.works(1, 3, 10, 0), 1);
        C.due("one day of 4", x.works(1, 4, 10, 0), 4);
        C.due("one day of 4 within 4", x.works(1, 4, 4, 0), 4);
        C.due("one day of 4 within 3", x.works(1, 4, 3, 0), NONE);
        C.due("two days of 3", x.works(2, 3, 10, 0), 3);
        C.due("two days of 3 within 4", x.works(2, 3, 4, 0), 3);
        C.due("two days of 3 within 3", x.works(2, 3, 3, 0), NONE);
        C.due("three days of 3", x.works(3, 3, 99, 0), NONE);
        C.due("days of 3 in all", x.works(3, 3, 10, 1), 6);
        x.days(3);
        C.due("1 is the next one", x.works(1, 4, 10, 0), 1);
        C.due("two days from the next but three", x.works(2, 3, 10, 0), 5);
    }

    private static void umbrellas() {
        SackedGlass x = some(10);
        C.due("TELLER 10", x.umbrella(10, 0), NONE);
        C.due("TELLER -2", x.umbrella(-2, 0), NONE);
        C.due("courtier 12", x.umbrella(0, 12), NONE);
        C.due("courtier -1", x.umbrella(0, -1), NONE);
        C.due("none", x.look(15), 0);
        C.due("the first to the first", x.umbrella(0, 0), 1);
        C.due("the last to the last", x.umbrella(9, 11), 2);
        C.due("who told 0", x.leaks(1, 1), 1);
        C.due("who told 11", x.leaks(1 << 11, 1), 1 << 9);
        for (int i = 3; i <= 19; i++) C.due("umbrella", x.umbrella(i % 10, i % 12), i);
        C.due("the twentieth", x.umbrella(5, 2), 20);
        C.due("one more", x.umbrella(0, 1), NONE);
        C.due("twenty", x.look(15), 20);
    }

    private static void leaks() {
        SackedGlass x = some(10);
        C.due("nobody took, none told of", x.leaks(0, 1), 0);
        C.due("by none", x.leaks(1, 1), NONE);
        x.umbrella(9, 0);
        x.umbrella(3, 0);
        x.umbrella(2, 1);
        x.umbrella(1, 0);
        x.umbrella(1, 2);
        C.due("of 3 and 9 the least set", x.leaks(1, 1), 1 << 3);
        C.due("one", x.leaks(1, 0), 1);
        C.due("2 and 3", x.leaks(3, 1), 1 << 2 | 1 << 3);
        C.due("two", x.leaks(3, 0), 2);
        C.due("1 told 2, but 0 too", x.leaks(4, 0), NONE);
        C.due("1 alone", x.leaks(5, 1), 1 << 1);
        C.due("1 and 2", x.leaks(7, 1), 1 << 1 | 1 << 2);
        C.due("together all of it", x.leaks(15, 1), NONE);
        C.due("nobody took: no TELLERS", x.leaks(0, 0), 0);
        x.umbrella(4, 0);
        x.umbrella(4, 1);
        C.due("one is fewer than 2 and 3, a lesser set", x.leaks(3, 1), 1 << 4);
        C.due("one", x.leaks(3, 0), 1);
        // Ten who told one courtier each, and one courtier whom they all told.
        SackedGlass y = some(10);
        for (int t = 0; t < 10; t++) y.umbrella(t, t);
        C.due("all ten", y.leaks(1023, 0), 10);
        C.due("the set", y.leaks(1023, 1), 1023);
        for (int t = 0; t < 10; t++) y.umbrella(t, 11);
        C.due("none without courtier 11", y.leaks(1023, 1), NONE);
        C.due("all ten with it", y.leaks(1023 | 1 << 11, 0), 10);
        // One that is GONE may have leaked.
        SackedGlass z = some(2);
        z.umbrella(1, 4);
        dismiss(z, 1);
        C.due("GONE", z.leaks(16, 1), 2);
    }

    private static void ask() {
        SackedGlass x = some(5);
        C.due("none told of", x.leaks(0, 2), NONE);
        x.umbrella(4, 11);
        x.umbrella(4, 10);
        C.due("one told of", x.leaks(0, 2), NONE);
        x.umbrella(0, 11);
        // 11: two tell, none does not; 10: one tells, one does not.
        C.due("10 parts them", x.leaks(0, 2), 10);
        x.umbrella(1, 7);
        x.umbrella(2, 7);
        // Of four: 11: two and two; 10: one and three; 7: two and two.
        C.due("of 7 and 11 the least", x.leaks(0, 2), 7);
        x.umbrella(3, 11);
        // Of five: 11: three and two; 7: two and three.
        C.due("the greater number counts", x.leaks(0, 2), 7);
        SackedGlass y = some(2);
        y.umbrella(0, 3);
        y.umbrella(1, 3);
        C.due("all alike: the least", y.leaks(0, 2), 0);
    }

    private static void votes() {
        // FEAR 9 has one vote: it decides nothing against FEAR 0, which has ten.
        SackedGlass x = Checks.court(0, 9, 0, 0);
        C.due("wins(1)", x.wins(1), 2);
        C.due("weighs(0)", x.weighs(0), 0);
        C.due("weighs(1)", x.weighs(1), 2);
        // 10 against ten times one, less one: 10 > 9.
        SackedGlass y = Checks.court(0, 0, 0, 9, 0, 9, 0, 9, 0, 9, 0, 9, 0, 9, 0, 9, 0, 9, 0, 9);
        C.due("ten of nineteen", y.wins(1), 1);
        C.due("nine of nineteen are too few", y.weighs(1), 0);
        y.set(3, 1, 8);
        // 10 of 20 is not more than half.
        C.due("ten of twenty", y.wins(0), 2);
        C.due("the set", y.wins(1), 3);
        SackedGlass z = some(2);
        dismiss(z, 0);
        C.due("one GONE has none", z.wins(1), 2);
    }

    private static void wins() {
        SackedGlass x = new SackedGlass();
        C.due("no tellers", x.wins(0), NONE);
        C.due("no set", x.wins(1), NONE);
        x.teller(0, 9);
        C.due("one", x.wins(1), 1);
        x.teller(0, 9);
        C.due("half is not more than half", x.wins(0), 2);
        x.teller(0, 9);
        C.due("two of three: the least set", x.wins(1), 3);
        SackedGlass y = Checks.court(0, 9, 0, 9, 0, 5, 0, 6);
        // 1 1 5 4 of 11: 6 are needed: 2 with 0.
        C.due("two", y.wins(0), 2);
        C.due("0 and 2 are a lesser set than 2 and 3", y.wins(1), 5);
        SackedGlass w = Checks.court(0, 6, 0, 7, 0, 7, 0, 4);
        // 4 3 3 6 of 16: 0, 1 and 2 are a lesser set than 0 and 3, but more.
        C.due("the fewest, not the least", w.wins(1), 9);
        C.due("two", w.wins(0), 2);
        SackedGlass z = some(1);
        dismiss(z, 0);
        C.due("all are GONE", z.wins(0), NONE);
        C.due("no set", z.wins(1), NONE);
    }

    private static void weighs() {
        SackedGlass x = some(1);
        C.due("one alone turns nothing into all", x.weighs(0), 1);
        x.teller(0, 0);
        C.due("half is no more than half", x.weighs(0), 1);
        x.teller(0, 0);
        C.due("one of two others", x.weighs(0), 2);
        SackedGlass y = Checks.court(0, 5, 0, 5, 0, 0);
        // 5 5 10 of 20: the last one turns 5, 5 and 10 into more.
        C.due("weighs(2)", y.weighs(2), 3);
        C.due("weighs(0)", y.weighs(0), 1);
        SackedGlass z = some(3);
        dismiss(z, 2);
        C.due("GONE", z.weighs(2), 0);
        C.due("sets of those not GONE alone", z.weighs(0), 1);
        C.due("ten of a kind", some(10).weighs(9), 126);
    }

    private static void posts() {
        SackedGlass x = some(1);
        C.due("SORT -2", x.post(-2, 1), NONE);
        C.due("SORT 6", x.post(6, 1), NONE);
        C.due("worth 0", x.post(0, 0), NONE);
        C.due("worth 100", x.post(0, 100), NONE);
        C.due("none", x.look(16), 0);
        C.due("of another SORT", x.post(1, 1), 1);
        C.due("sum", x.serves(0), 1);
        C.due("whom it has", x.serves(10), 0);
        x.post(NONE, 0);
        C.due("the least", x.post(0, 1), 1);
        C.due("sum", x.serves(0), 2);
        C.due("the greatest", x.post(5, 99), 2);
        C.due("sum", x.serves(0), 99);
        for (int i = 3; i <= 6; i++) C.due("post", x.post(0, 98), i);
        C.due("the sixth counts", x.serves(0), 196);
        C.due("a seventh", x.post(0, 99), NONE);
        C.due("six", x.look(16), 6);
        C.due("sum", x.serves(0), 196);
    }

    private static void servesOnce() {
        SackedGlass x = some(2);
        x.post(0, 10);
        x.post(0, 20);
        x.post(0, 30);
        C.due("two of three posts", x.serves(0), 100);
        C.due("the least worth has nobody", x.serves(10), NONE);
        C.due("serves(11)", x.serves(11), 0);
        C.due("serves(12)", x.serves(12), 1);
        dismiss(x, 0);
        C.due("one that is GONE does not serve", x.serves(0), 60);
        C.due("serves(11)", x.serves(11), NONE);
        C.due("serves(12)", x.serves(12), 1);
        dismiss(x, 1);
        C.due("all are GONE", x.serves(0), 0);
        for (int i = 0; i < 3; i++) C.due("nobody", x.serves(10 + i), NONE);
    }

    private static void servesFirst() {
        SackedGlass x = some(10);
        for (int i = 0; i < 6; i++) x.post(5, 7);
        C.due("sum", x.serves(0), 42);
        for (int i = 0; i < 6; i++) C.due("the lesser first", x.serves(10 + i), i);
        // Two alike and one post more: nobody last, so the first posts have them.
        SackedGlass y = Checks.court(1, 0, 2, 0);
        y.post(3, 5);
        y.post(3, 5);
        y.post(3, 5);
        C.due("sum", y.serves(0), 10);
        C.due("serves(10)", y.serves(10), 0);
        C.due("serves(11)", y.serves(11), 1);
        C.due("serves(12)", y.serves(12), NONE);
        // 1 for SORT 1 twice that: 0 is worth as much at the first post as at the second.
        SackedGlass z = Checks.court(1, 0);
        z.post(3, 10);
        z.post(1, 5);
        C.due("10 by both ways", z.serves(0), 10);
        C.due("the first post has it", z.serves(10), 0);
        C.due("the second one nobody", z.serves(11), NONE);
        // The lesser at the first post only if the sum stays the greatest.
        SackedGlass w = Checks.court(2, 0, 1, 0);
        w.post(1, 9);
        w.post(2, 9);
        C.due("both alike in SORT", w.serves(0), 36);
        C.due("serves(10)", w.serves(10), 1);
        C.due("serves(11)", w.serves(11), 0);
    }

    private static void hats() {
        C.due("no tellers", new SackedGlass().hats(), 1);
        C.due("one", some(1).hats(), 0);
        C.due("ten of one SORT", some(10).hats(), 0);
        SackedGlass x = new SackedGlass();
        for (int i = 0; i < 6; i++) x.teller(i, 0);
        C.due("six SORTS: none has its own", x.hats(), 265);
        // Six of one SORT and four others: six hats for four heads.
        SackedGlass y = Checks.court(0, 0, 0, 0, 0, 0, 0, 0, 0, 0, 0, 0, 1, 0, 2, 0, 3, 0, 4, 0);
        C.due("too many of one SORT", y.hats(), 0);
        SackedGlass z = Checks.court(0, 0, 0, 0, 0, 0, 0, 0, 0, 0, 1, 0, 1, 0, 1, 0, 1, 0, 1, 0);
        C.due("five and five", z.hats(), 14400);
        SackedGlass w = Checks.court(0, 0, 1, 0);
        C.due("two", w.hats(), 1);
        dismiss(w, 1);
        C.due("one is left", w.hats(), 0);
        dismiss(w, 0);
        C.due("none is left", w.hats(), 1);
        // Two each of five SORTS.
        SackedGlass v = Checks.court(0, 0, 0, 0, 1, 0, 1, 0, 2, 0, 2, 0, 3, 0, 3, 0, 4, 0, 4, 0);
        C.due("five twos", v.hats(), 440192);
    }

    private static void mixNumbers() {
        SackedGlass x = new SackedGlass();
        for (int k = 0; k < 4; k++) {
            C.due("0", x.mix(k, 0), true);
            C.due("99", x.mix(k, 99), true);
            C.due("100", x.mix(k, 100), false);
            C.due("-1", x.mix(k, -1), false);
        }
        C.due("the greatest sum", x.mixes(1), 99000);
        C.due("k -1", x.mix(-1, 5), false);
        C.due("k 4", x.mix(4, 5), false);
        C.due("the greatest sum", x.mixes(1), 99000);
    }

    private static void mixes() {
        mixed(0, 0, 0, 0, 0, 0);
        mixed(99, 99, 99, 99, 0, 99000);
        mixed(0, 0, 1, 1, 1000, 1000);
        mixed(1, 1, 0, 0, 0, 1000);
        mixed(0, 0, 0, 1, 0, 0);
        mixed(1, 0, 0, 1, 500, 500);
        mixed(5, 5, 5, 9, 0, 5000);
        mixed(5, 0, 5, 9, 556, 5000);
        // Between 333 and 334 the sums cross: 334 * 2 = 668, 666 * 1 = 666; 333 * 2 = 666, 667 * 1: 666 by both.
        mixed(1, 0, 0, 2, 333, 666);
        mixed(0, 1, 2, 0, 333, 666);
        mixed(99, 0, 98, 99, 990, 98010);
    }

    private static void mixed(int a, int b, int c, int d, int p, int sum) {
        SackedGlass x = new SackedGlass();
        x.mix(0, a);
        x.mix(1, b);
        x.mix(2, c);
        x.mix(3, d);
        C.due("p of " + a + " " + b + " " + c + " " + d, x.mixes(0), p);
        C.due("that sum", x.mixes(1), sum);
    }

    private static void game() {
        played(NONE, NONE);
        played(NONE, NONE, 0, 0);
        played(NONE, NONE, 3);
        played(NONE, NONE, 9, 6, 3);
        played(0, 1, 1);
        played(0, 2, 2);
        played(0, 1, 4);
        played(0, 2, 5);
        // 1 and 1 and 1: each may be tapped.
        played(0, 1, 1, 1, 1);
        played(1, 1, 0, 1);
        // 9 and 1 and 1 is lost; 9 and 1: 9 becomes 7, or 1 becomes 0.
        played(NONE, NONE, 9, 1, 1);
        played(0, 2, 9, 1);
        played(0, 1, 1, 9);
        played(9, 2, 0, 0, 0, 0, 0, 0, 0, 0, 0, 8);
        SackedGlass x = Checks.court(0, 1, 0, 2);
        x.act(2, 0, 2);
        x.act(2, 1, 2);
        dismiss(x, 0);
        C.due("one GONE is not in it", x.game(0), 1);
        C.due("two off", x.game(1), 2);
    }

    private static void played(int teller, int many, int... fears) {
        SackedGlass x = new SackedGlass();
        for (int f : fears) x.teller(0, f);
        C.due("whom, of " + java.util.Arrays.toString(fears), x.game(0), teller);
        C.due("how many, of " + java.util.Arrays.toString(fears), x.game(1), many);
    }

    private static void goesBack() {
        SackedGlass x = some(2);
        x.set(2, 0, -1);
        x.set(4, 0, -9);
        x.act(0, 0, 0);
        x.days(1);
        C.due("GONE", x.of(0, 5), 1);
        x.set(1, 0, 1000);
        x.act(1, 1, 9);
        x.act(2, 1, 3);
        x.act(3, 1, 0);
        int[] recalling = Checks.all(x);
        x.act(4, 0, 0);
        int[] naming = Checks.all(x);
        x.act(0, 0, 0);
        int lines = x.look(9);
        x.days(1);
        C.due("something was drawn", x.look(10) != 0, true);
        C.due("undo the day", x.undo(), true);
        C.due("STATE", x.look(10), 0);
        C.due("GLASS", x.look(2), 50);
        C.due("lines", x.look(9), lines);
        C.due("days of the record", x.look(18), 1);
        C.due("STAND", x.of(0, 4), 0);
        C.due("undo the naming", x.undo(), true);
        C.unchanged(x, naming);
        C.due("undo the recalling", x.undo(), true);
        C.unchanged(x, recalling);
        C.due("undo the freeing", x.undo(), true);
        C.due("GLUE", x.of(1, 3), 3);
        C.due("undo the glueing", x.undo(), true);
        C.due("GLUE", x.of(1, 3), NONE);
        C.due("undo the bribing", x.undo(), true);
        C.due("COIN", x.look(6), 0);
        recordGoesBack();
    }

    /** On every seventh day from DAY 0 on one that is glued tells wrongly; 90 days are kept, and 6 go back. */
    private static void recordGoesBack() {
        SackedGlass x = some(1);
        x.set(2, 0, -999);
        x.act(2, 0, 2);
        Checks.text(x, 1, "for 1 rise 20;for 1 fall 20;for 5 rise 0;");
        int day = 0;
        for (int n : new int[] {3, 60, 26, 1, 1, 5, 1, 60, 39, 7, 60, 60}) {
            x.days(n);
            day += n;
            kept(x, day);
            for (int i = 1; i <= Math.min(6, n); i++) {
                x.undo();
                kept(x, day - i);
            }
            x.days(Math.min(6, n));
            kept(x, day);
        }
    }

    private static void kept(SackedGlass x, int day) {
        int wrong = 0;
        for (int d = Math.max(0, day - 90); d < day; d++) wrong += d % 7 == 0 ? 1 : 0;
        C.due("days at DAY " + day, x.look(18), Math.min(90, day));
        C.due("right at DAY " + day, x.right(0, 0), Math.min(90, day) - wrong);
    }

    private static void sixSteps() {
        SackedGlass x = some(1);
        for (int i = 1; i <= 5; i++) x.act(1, 0, i);
        C.due("five", x.look(17), 5);
        x.act(1, 0, 6);
        C.due("six", x.look(17), 6);
        x.act(1, 0, 7);
        C.due("six", x.look(17), 6);
        for (int i = 6; i >= 1; i--) {
            C.due("undo", x.undo(), true);
            C.due("BRIBE", x.of(0, 2), i);
        }
        C.due("the first one can't be undone any more", x.undo(), false);
        C.due("BRIBE", x.of(0, 2), 1);
        // Days and acts are kept alike, and each day of many for itself.
        SackedGlass y = some(1);
        y.days(4);
        y.act(1, 0, 9);
        y.days(2);
        for (int i = 0; i < 3; i++) y.undo();
        C.due("BRIBE", y.of(0, 2), 0);
        C.due("DAY", y.look(1), 4);
        for (int i = 0; i < 3; i++) C.due("undo", y.undo(), true);
        C.due("DAY", y.look(1), 1);
        C.due("no more", y.undo(), false);
        // Undone ones make room for others.
        y.days(60);
        y.undo();
        y.undo();
        C.due("four", y.look(17), 4);
        y.days(1);
        C.due("five", y.look(17), 5);
        y.days(5);
        C.due("six", y.look(17), 6);
    }

    private static SackedGlass withStep() {
        SackedGlass x = some(1);
        x.days(1);
        C.due("a step", x.look(17), 1);
        return x;
    }

    private static void forgets() {
        SackedGlass x = withStep();
        Checks.text(x, 0, "err 1;");
        x.seen(5);
        x.umbrella(0, 5);
        x.post(0, 5);
        x.mix(0, 5);
        x.image(true);
        C.due("none of these forgets", x.look(17), 1);
        C.due("the day is undone", x.undo(), true);
        C.due("DAY", x.look(1), 0);
        x = withStep();
        x.state(x.look(10));
        C.due("STATE forgets", x.undo(), false);
        x = withStep();
        x.teller(0, 0);
        C.due("a TELLER forgets", x.undo(), false);
        int[][] sets = {{0, 0, 50}, {1, 0, 0}, {2, 0, -10}, {3, 0, 0}, {4, 0, 1}};
        for (int[] s : sets) {
            x = withStep();
            C.due("set", x.set(s[0], s[1], s[2]), true);
            C.due("set(" + s[0] + ") forgets though it changes nothing", x.undo(), false);
        }
        for (int k = 1; k <= 2; k++) {
            x = withStep();
            C.sound(x, k, "", 0);
            C.due("TEXT " + k + " forgets", x.undo(), false);
        }
        x = withStep();
        x.image(true);
        x.image(false);
        C.due("going back to the image forgets", x.undo(), false);
        C.due("DAY", x.look(1), 1);
    }

    private static void image() {
        SackedGlass x = Checks.court(1, 0, 2, 0);
        Checks.text(x, 0, "tell 1;");
        Checks.text(x, 1, "for 1 rise 2;");
        Checks.text(x, 2, "on 1 tap;");
        x.seen(4);
        x.umbrella(0, 1);
        x.post(1, 9);
        x.mix(0, 5);
        x.mix(1, 5);
        x.days(2);
        x.state(77);
        x.image(true);
        int[] was = Checks.all(x);
        C.faulty(x, 0, "tell", 1, 4);
        Checks.text(x, 0, "");
        Checks.text(x, 1, "");
        Checks.text(x, 2, "");
        x.seen(NONE);
        x.seen(9);
        x.umbrella(NONE, 0);
        x.umbrella(1, 2);
        x.post(NONE, 0);
        x.post(2, 3);
        x.mix(0, 0);
        x.set(0, 0, 1);
        x.set(1, 0, 1);
        x.set(2, 0, -1);
        x.set(3, 0, 1);
        x.set(4, 0, 1);
        x.teller(0, 0);
        x.act(2, 1, 0);
        x.days(9);
        Checks.feed(x, "tell 3;");
        C.due("gone back to", x.image(false), true);
        C.unchanged(x, was);
        C.tape(x, 7);
        C.due("nothing can be undone", x.undo(), false);
        C.due("the tape is read on", x.text(0), 1);
        C.due("tell", x.of(0, 7), 3);
        C.faulty(x, 0, "tell 1/0;", 2, 7);
        x.image(false);
        C.due("fault(0) stays", x.fault(0), 2);
        C.due("fault(1) stays", x.fault(1), 7);
    }

    private static void imageAgain() {
        SackedGlass x = some(1);
        x.image(true);
        for (int i = 0; i < 3; i++) {
            x.days(5);
            C.due("gone back to", x.image(false), true);
            C.due("DAY", x.look(1), 0);
            C.due("lines", x.look(9), 0);
        }
        x.days(5);
        C.due("taken anew", x.image(true), true);
        x.days(5);
        C.due("gone back to", x.image(false), true);
        C.due("DAY", x.look(1), 5);
        // What is undone and written over behind the image is there again.
        x.act(1, 0, 5);
        x.days(1);
        x.image(true);
        int lines = x.look(9);
        x.undo();
        x.undo();
        x.act(2, 0, 0);
        x.set(0, 0, 99);
        x.days(1);
        x.image(false);
        C.due("lines", x.look(9), lines);
        C.line(x, lines - 3, 5, 5, 0, 5);
        C.line(x, lines - 2, 5, 0, 2, 50);
        C.line(x, lines - 1, 5, 1, 0, 1);
        C.due("right on six days", x.right(0, 0), 6);
        C.due("of six", x.right(0, 1), 6);
    }
}
