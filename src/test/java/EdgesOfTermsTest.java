/** The boundaries that the document names ahead of its promises: draws, and what there is (1). */
public final class EdgesOfTermsTest {
    private static final int NONE = SackedGlass.NONE;
    private static final Sentences S = new Sentences();
    private static final Checks C = S.checks;

    public static void main(String[] args) {
        S.says("STATE of draws (an int, 0 at first)", EdgesOfTermsTest::state);
        S.says("it becomes 1664525 times itself + 1013904223 (ints, which wrap)", EdgesOfTermsTest::drawWraps);
        S.says("then it is its highest 24 bits (without sign) modulo m", EdgesOfTermsTest::drawHasNoSign);
        S.says("GLASS 0 .. 99 (50 at first)", EdgesOfTermsTest::glass);
        S.says("KIND of weather 0 .. 4: GLASS by 20", EdgesOfTermsTest::kind);
        S.says("TELLERS 0 .. 9 as they come", EdgesOfTermsTest::tellers);
        S.says("SORT 0 .. 5", EdgesOfTermsTest::sort);
        S.says("FEAR 0 .. 9", EdgesOfTermsTest::fear);
        S.says("BRIBE 0 .. 99 (0 at first)", EdgesOfTermsTest::bribe);
        S.says("GLUE a KIND or none (none at first)", EdgesOfTermsTest::glue);
        S.says("STAND -999 .. 999 (0 at first)", EdgesOfTermsTest::stand);
        S.says("GONE 0, 1 (0 at first)", EdgesOfTermsTest::gone);
        S.says("SAID a KIND or none (none at first)", EdgesOfTermsTest::said);
        S.says("MINISTER: a TELLER or none (none at first)", EdgesOfTermsTest::minister);
        S.says("GUSTS 0 .. 1000 (0 at first)", EdgesOfTermsTest::gusts);
        S.says("FALLS -999 .. 0 (-10 at first)", EdgesOfTermsTest::falls);
        S.says("FLOODS (0), COIN (an int, 0 at first)", EdgesOfTermsTest::floodsAndCoin);
        S.says("DAY 0 .. 9999 (0 at first)", EdgesOfTermsTest::day);
        S.finish("EdgesOfTermsTest");
    }

    private static void state() {
        SackedGlass x = new SackedGlass();
        C.due("STATE at first", x.look(10), 0);
        x.state(Integer.MAX_VALUE);
        C.due("the greatest int", x.look(10), Integer.MAX_VALUE);
        x.state(Integer.MIN_VALUE);
        C.due("the least int", x.look(10), Integer.MIN_VALUE);
    }

    /** A day with one teller who errs so much, from a STATE. */
    private static SackedGlass morning(int state, int err) {
        SackedGlass x = Checks.court(0, 0);
        x.state(state);
        Checks.text(x, 0, "err " + err + ";");
        x.days(1);
        return x;
    }

    private static void drawWraps() {
        C.due("from 1, without wrapping", morning(1, 1).look(10), 1015568748);
        C.due("from -1", morning(-1, 1).look(10), 1012239698);
        C.due("from the greatest int", morning(Integer.MAX_VALUE, 1).look(10), -1135243950);
        C.due("from the least int", morning(Integer.MIN_VALUE, 1).look(10), -1133579425);
        C.due("twice from the greatest int", morning(Integer.MAX_VALUE, 1000).look(10), -1340617591);
        C.due("twice from 5, from above 0 to below it", morning(5, 1000).look(10), -1150683009);
    }

    private static void drawHasNoSign() {
        // STATE -1133579425 then: 12349171 are its highest 24 bits, 171 of a thousand.
        C.due("171 is not below 171", morning(Integer.MIN_VALUE, 171).look(10), -1133579425);
        C.due("171 is below 172", morning(Integer.MIN_VALUE, 172).look(10), -951047886);
        C.due("-951047886 draws 1 of 2", morning(Integer.MIN_VALUE, 172).of(0, 6), 3);
        // -1135243950: 12342669; -1340617591: 0 of 2.
        C.due("669 is not below 669", morning(Integer.MAX_VALUE, 669).look(10), -1135243950);
        C.due("669 is below 670", morning(Integer.MAX_VALUE, 670).look(10), -1340617591);
        C.due("-1340617591 draws 0 of 2", morning(Integer.MAX_VALUE, 670).of(0, 6), 1);
        SackedGlass x = new SackedGlass();
        x.set(1, 0, 1000);
        x.state(Integer.MIN_VALUE);
        x.days(1);
        C.due("-951047886 draws 17 of 21, less 10", x.look(2), 57);
    }

    private static void glass() {
        SackedGlass x = new SackedGlass();
        C.due("GLASS at first", x.look(2), 50);
        C.due("set to 0", x.set(0, 0, 0), true);
        C.due("set to -1", x.set(0, 0, -1), false);
        C.due("GLASS", x.look(2), 0);
        C.due("set to 99", x.set(0, 0, 99), true);
        C.due("set to 100", x.set(0, 0, 100), false);
        C.due("GLASS", x.look(2), 99);
        Checks.text(x, 1, "for 2 rise 1;for 4 fall 40;");
        x.days(2);
        C.due("it rises to 99 at most", x.look(2), 99);
        x.days(2);
        C.due("it falls", x.look(2), 19);
        x.days(2);
        C.due("it falls to 0 at most", x.look(2), 0);
    }

    private static void kind() {
        SackedGlass x = new SackedGlass();
        C.due("KIND at first", x.look(3), 2);
        int[] glasses = {0, 19, 20, 39, 40, 59, 60, 79, 80, 99};
        int[] kinds = {0, 0, 1, 1, 2, 2, 3, 3, 4, 4};
        for (int i = 0; i < glasses.length; i++) {
            x.set(0, 0, glasses[i]);
            C.due("KIND of GLASS " + glasses[i], x.look(3), kinds[i]);
        }
    }

    private static void tellers() {
        SackedGlass x = new SackedGlass();
        C.due("none at first", x.look(0), 0);
        for (int i = 0; i < 10; i++) C.due("teller " + i, x.teller(i % 6, 9 - i), i);
        C.due("no eleventh", x.teller(0, 0), NONE);
        for (int i = 0; i < 10; i++) {
            C.due("SORT of " + i, x.of(i, 0), i % 6);
            C.due("FEAR of " + i, x.of(i, 1), 9 - i);
        }
        C.due("of the eleventh", x.of(10, 0), NONE - 9999);
    }

    private static void sort() {
        SackedGlass x = new SackedGlass();
        C.due("SORT -1", x.teller(-1, 0), NONE);
        C.due("SORT 6", x.teller(6, 0), NONE);
        C.due("SORT 0", x.teller(0, 0), 0);
        C.due("SORT 5", x.teller(5, 0), 1);
        C.due("of(0, 0)", x.of(0, 0), 0);
        C.due("of(1, 0)", x.of(1, 0), 5);
    }

    private static void fear() {
        SackedGlass x = new SackedGlass();
        C.due("FEAR -1", x.teller(0, -1), NONE);
        C.due("FEAR 10", x.teller(0, 10), NONE);
        C.due("FEAR 0", x.teller(0, 0), 0);
        C.due("FEAR 9", x.teller(0, 9), 1);
        C.due("set(3, 0, 10)", x.set(3, 0, 10), false);
        C.due("set(3, 0, -1)", x.set(3, 0, -1), false);
        C.due("of(0, 1)", x.of(0, 1), 0);
        C.due("of(1, 1)", x.of(1, 1), 9);
        C.due("set(3, 0, 9)", x.set(3, 0, 9), true);
        C.due("set(3, 1, 0)", x.set(3, 1, 0), true);
        C.due("of(0, 1)", x.of(0, 1), 9);
        C.due("of(1, 1)", x.of(1, 1), 0);
    }

    private static void bribe() {
        SackedGlass x = Checks.court(0, 0);
        C.due("BRIBE at first", x.of(0, 2), 0);
        C.due("99", x.act(1, 0, 99), true);
        C.due("100", x.act(1, 0, 100), false);
        C.due("BRIBE", x.of(0, 2), 99);
        C.due("0", x.act(1, 0, 0), true);
        C.due("-1", x.act(1, 0, -1), false);
        C.due("BRIBE", x.of(0, 2), 0);
    }

    private static void glue() {
        SackedGlass x = Checks.court(0, 0);
        C.due("GLUE at first", x.of(0, 3), NONE);
        C.due("KIND 4", x.act(2, 0, 4), true);
        C.due("KIND 5", x.act(2, 0, 5), false);
        C.due("GLUE", x.of(0, 3), 4);
        C.due("KIND 0", x.act(2, 0, 0), true);
        C.due("KIND -1", x.act(2, 0, -1), false);
        C.due("GLUE", x.of(0, 3), 0);
        C.due("free", x.act(3, 0, 0), true);
        C.due("GLUE", x.of(0, 3), NONE);
    }

    private static void stand() {
        SackedGlass x = Checks.court(0, 0);
        C.due("STAND at first", x.of(0, 4), 0);
        C.due("999", x.set(4, 0, 999), true);
        C.due("1000", x.set(4, 0, 1000), false);
        C.due("STAND", x.of(0, 4), 999);
        C.due("-999", x.set(4, 0, -999), true);
        C.due("-1000", x.set(4, 0, -1000), false);
        C.due("STAND", x.of(0, 4), -999);
    }

    private static void gone() {
        SackedGlass x = Checks.court(0, 0);
        C.due("GONE at first", x.of(0, 5), 0);
        x.set(4, 0, -50);
        x.act(0, 0, 0);
        x.days(1);
        C.due("GONE", x.of(0, 5), 1);
        x.act(4, 0, 0);
        C.due("GONE no more", x.of(0, 5), 0);
    }

    private static void said() {
        SackedGlass x = Checks.court(0, 0);
        C.due("SAID at first", x.of(0, 6), NONE);
        for (int kind = 0; kind < 5; kind++) {
            x.set(0, 0, 20 * kind);
            x.days(1);
            C.due("SAID", x.of(0, 6), kind);
        }
    }

    private static void minister() {
        SackedGlass x = new SackedGlass();
        C.due("MINISTER at first", x.look(4), NONE);
        x.days(1);
        C.due("none without tellers", x.look(4), NONE);
        for (int i = 0; i < 10; i++) x.teller(0, 0);
        C.due("none by telling of tellers", x.look(4), NONE);
        C.due("name the last", x.act(0, 9, 0), true);
        C.due("MINISTER", x.look(4), 9);
        C.due("name one more", x.act(0, 10, 0), false);
        C.due("MINISTER", x.look(4), 9);
        C.due("name the first", x.act(0, 0, 0), true);
        C.due("MINISTER", x.look(4), 0);
    }

    private static void gusts() {
        SackedGlass x = new SackedGlass();
        C.due("GUSTS at first", x.look(7), 0);
        C.due("1000", x.set(1, 0, 1000), true);
        C.due("1001", x.set(1, 0, 1001), false);
        C.due("GUSTS", x.look(7), 1000);
        C.due("0", x.set(1, 0, 0), true);
        C.due("-1", x.set(1, 0, -1), false);
        C.due("GUSTS", x.look(7), 0);
    }

    private static void falls() {
        SackedGlass x = new SackedGlass();
        C.due("FALLS at first", x.look(8), -10);
        C.due("0", x.set(2, 0, 0), true);
        C.due("1", x.set(2, 0, 1), false);
        C.due("FALLS", x.look(8), 0);
        C.due("-999", x.set(2, 0, -999), true);
        C.due("-1000", x.set(2, 0, -1000), false);
        C.due("FALLS", x.look(8), -999);
    }

    private static void floodsAndCoin() {
        SackedGlass x = Checks.court(0, 0);
        C.due("FLOODS at first", x.look(5), 0);
        C.due("COIN at first", x.look(6), 0);
        x.act(1, 0, 99);
        C.due("COIN may be below 0", x.look(6), -99);
    }

    private static void day() {
        SackedGlass x = new SackedGlass();
        C.due("DAY at first", x.look(1), 0);
        for (int i = 0; i < 166; i++) x.days(60);
        x.days(39);
        C.due("the last DAY", x.look(1), 9999);
        C.due("no further", x.days(1), NONE);
        C.due("the last DAY", x.look(1), 9999);
    }
}
