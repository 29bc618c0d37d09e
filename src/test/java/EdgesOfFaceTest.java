/** The boundaries that the promises themselves name: what is refused, and what that changes. */
public final class EdgesOfFaceTest {
    private static final int NONE = SackedGlass.NONE;
    private static final int LEAST = Integer.MIN_VALUE;
    private static final int MOST = Integer.MAX_VALUE;
    private static final Sentences S = new Sentences();
    private static final Checks C = S.checks;

    public static void main(String[] args) {
        S.says("SackedGlass(): An empty stair.", EdgesOfFaceTest::promise1);
        S.says("int state(int v): STATE is told: what it was.", EdgesOfFaceTest::promise2);
        S.says("A TELLER: the number; NONE if one can't be, or there are ten.", EdgesOfFaceTest::promise3);
        S.says("What 0 GLASS, 1 GUSTS, 2 FALLS (who not asked)", EdgesOfFaceTest::promise4NotAsked);
        S.says("3 FEAR, 4 STAND of TELLER who: true; false if one can't be, or another what.", EdgesOfFaceTest::promise4);
        S.says("3 FREE, 4 RECALL a TELLER (v else not asked)", EdgesOfFaceTest::promise5NotAsked);
        S.says("true; false if it can't be (named: GONE; freed: no GLUE; recalled: not GONE), or another what.",
                EdgesOfFaceTest::promise5);
        S.says("DAYS go by (1 .. 60): how many fell.", EdgesOfFaceTest::promise6);
        S.says("NONE, and nothing is done, if one can't be, or DAY would be above 9999.", EdgesOfFaceTest::promise6Refused);
        S.says("Twenty bytes come behind the TAPE, of each number the highest first: how many it has.",
                EdgesOfFaceTest::promise7);
        S.says("NONE, and nothing comes, if there would be more than 400.", EdgesOfFaceTest::promise7Full);
        S.says("The TAPE has its first n bytes alone: true", EdgesOfFaceTest::promise8);
        S.says("false, changing nothing, if it has not so many, or n is below 0.", EdgesOfFaceTest::promise8Refused);
        S.says("The TAPE, empty then, is TEXT k: how many lines.", EdgesOfFaceTest::promise9);
        S.says("NONE: no such one (fault() tells 0), or a FAULT (it stays as it was).", EdgesOfFaceTest::promise9Refused);
        S.says("Of the latest text() what 0 the FAULT (0 without one), 1 its place (NONE). NONE for another what.",
                EdgesOfFaceTest::promise10);
        S.says("9 blame (0 if it SAID nothing)", EdgesOfFaceTest::promise11);
        S.says("int of(int teller, int what): Of a TELLER what 0 SORT, 1 FEAR, 2 BRIBE, 3 GLUE (NONE), 4 STAND, 5 GONE, "
                + "6 SAID (NONE), 7 tell, 8 err, 9 blame (0 if it SAID nothing). NONE - 9999 if there is none such, or "
                + "another what.", EdgesOfFaceTest::promise11Refused);
        S.says("How much GLASS moves on a DAY by ROUNDS (fall below 0); NONE - 99 if there is none such (0 .. 9999).",
                EdgesOfFaceTest::promise12);
        S.says("Of line i of THE BOOK what 0 DAY, 1 what, 2 which, 3 how much. NONE - 9999 if there is none such, or "
                + "another what.", EdgesOfFaceTest::promise13);
        S.says("4 the first who falls, 5 that DAY (NONE). NONE - 99999 if one can't be, or another what.",
                EdgesOfFaceTest::promise14);
        S.says("KINDS ahead; NONE if n can't be.", EdgesOfFaceTest::promise15);
        S.says("RIGHT what 0 how often, 1 on how many days. NONE if there is none such, or another what.",
                EdgesOfFaceTest::promise16);
        S.says("SUREST; NONE if none.", EdgesOfFaceTest::promise17);
        S.says("LIKELY of a KIND; BEST (k NONE). NONE if k can't be, or none SAID anything.", EdgesOfFaceTest::promise18);
        S.says("GLUED, as a set.", EdgesOfFaceTest::promise19);
        S.says("SEEN (NONE: nothing is then): how many; NONE if one can't be, or there are twelve.",
                EdgesOfFaceTest::promise20);
        S.says("ROUND (n NONE), AHEAD n; NONE without any, or if n can't be.", EdgesOfFaceTest::promise21);
        S.says("SAFE what 0 the KIND, 1 how much. NONE - 9999 if there is none such, or another what.",
                EdgesOfFaceTest::promise22);
        S.says("WORKS what 0 the first, 1 how many days. NONE if there are none so (0), one can't be (k a KIND), or "
                + "another what.", EdgesOfFaceTest::promise23);
        S.says("UMBRELLAS (a NONE: none are then): how many; NONE if one can't be, or there are twenty.",
                EdgesOfFaceTest::promise24);
        S.says("ASK what 2 (TOOK not asked; NONE: fewer than two TELLERS told of).", EdgesOfFaceTest::promise25Ask);
        S.says("NONE if by none, TOOK has other bits, or another what.", EdgesOfFaceTest::promise25);
        S.says("WINS what 0 how many, 1 the set. NONE if by none, or another what.", EdgesOfFaceTest::promise26);
        S.says("WEIGHS; NONE if there is none such (GONE: 0).", EdgesOfFaceTest::promise27);
        S.says("A POST (sort NONE: none is then): how many; NONE if one can't be, or there are six.",
                EdgesOfFaceTest::promise28);
        S.says("SERVES what 0 the sum, 10 + i whom post i has (NONE). NONE for another what.", EdgesOfFaceTest::promise29);
        S.says("int hats(): HATS.", EdgesOfFaceTest::promise30);
        S.says("what she gets, if she asks for truth (2) or ease (0) and truth (1) or ease (0) is told, added: true; "
                + "false if one can't be.", EdgesOfFaceTest::promise31);
        S.says("MIXES what 0 p, 1 the sum. NONE for another what.", EdgesOfFaceTest::promise32);
        S.says("GAME what 0 the TELLER, 1 how many. NONE if who begins loses, or for another what.",
                EdgesOfFaceTest::promise33);
        S.says("UNDO: true; false if there is nothing.", EdgesOfFaceTest::promise34);
        S.says("THE IMAGE is taken (true), or gone back to (false): true; false if there is none.",
                EdgesOfFaceTest::promise35);
        S.says("NONE - 99999 for another what. (STATE as it is.)", EdgesOfFaceTest::promise36);
        S.finish("EdgesOfFaceTest");
    }

    /** A court with all that can be told, two days old, with steps to undo, an image, and seven bytes on the tape. */
    private static SackedGlass full() {
        SackedGlass x = Checks.court(0, 1, 1, 2, 2, 3);
        x.set(2, 0, -500);
        x.state(9);
        Checks.text(x, 0, "blame off;");
        Checks.text(x, 1, "for 2 rise 20;for 2 fall 15;");
        Checks.text(x, 2, "on 1 tap;on 3 bribe 1 9;");
        for (int i = 0; i < 3; i++) x.seen(5 + i);
        for (int i = 0; i < 3; i++) x.umbrella(i, i);
        for (int i = 0; i < 3; i++) x.post(i, 9 + i);
        for (int i = 0; i < 4; i++) x.mix(i, 9 * i % 7);
        x.act(2, 1, 0);
        x.days(2);
        x.act(0, 2, 0);
        x.image(true);
        Checks.feed(x, "tell 1;");
        return x;
    }

    /** What stands behind calls that were refused. */
    private static void still(SackedGlass x, int[] was) {
        C.unchanged(x, was);
        C.tape(x, 7);
    }

    private static void promise1() {
        SackedGlass x = new SackedGlass();
        int[] due = {0, 0, 50, 2, NONE, 0, 0, 0, -10, 0, 0, 0, 0, 0, 0, 0, 0, 0, 0};
        for (int w = 0; w < due.length; w++) C.due("look(" + w + ")", x.look(w), due[w]);
        C.tape(x, 0);
        C.due("fault(0)", x.fault(0), 0);
        C.due("fault(1)", x.fault(1), NONE);
        C.due("of(0, 0)", x.of(0, 0), NONE - 9999);
        C.due("book(0, 0)", x.book(0, 0), NONE - 9999);
        C.due("round(NONE)", x.round(NONE), NONE);
        C.due("mixes(1)", x.mixes(1), 0);
        C.due("undo()", x.undo(), false);
        C.due("image(false)", x.image(false), false);
        // One object does not know of another.
        SackedGlass y = full();
        C.due("TELLERS of one", y.look(0), 3);
        C.due("TELLERS of the other", x.look(0), 0);
        C.due("GLASS of the other", x.look(2), 50);
    }

    private static void promise2() {
        SackedGlass x = new SackedGlass();
        C.due("at first", x.state(LEAST), 0);
        C.due("the least", x.state(MOST), LEAST);
        C.due("the greatest", x.state(-1), MOST);
        C.due("-1", x.state(0), NONE);
        C.due("0", x.state(0), 0);
        x = Checks.court(0, 1);
        x.days(1);
        C.due("behind a draw", x.state(3), 1013904223);
        C.due("told", x.look(10), 3);
    }

    private static void promise3() {
        SackedGlass x = full();
        int[] was = Checks.all(x);
        int[][] wrong = {{-1, 0}, {6, 0}, {0, -1}, {0, 10}, {LEAST, 0}, {MOST, 0}, {0, LEAST}, {0, MOST}, {NONE, NONE}};
        for (int[] w : wrong) C.due("teller(" + w[0] + ", " + w[1] + ")", x.teller(w[0], w[1]), NONE);
        still(x, was);
        for (int i = 3; i < 10; i++) C.due("teller", x.teller(5, 9), i);
        x.days(1);
        was = Checks.all(x);
        C.due("an eleventh", x.teller(0, 0), NONE);
        C.due("an eleventh that can't be", x.teller(6, 0), NONE);
        still(x, was);
        C.due("the tenth", x.of(9, 1), 9);
    }

    private static void promise4NotAsked() {
        SackedGlass x = new SackedGlass();
        for (int who : new int[] {LEAST, -1, 0, 10, MOST}) {
            C.due("GLASS", x.set(0, who, 7), true);
            C.due("GUSTS", x.set(1, who, 8), true);
            C.due("FALLS", x.set(2, who, -9), true);
        }
        C.due("GLASS", x.look(2), 7);
        C.due("GUSTS", x.look(7), 8);
        C.due("FALLS", x.look(8), -9);
    }

    private static void promise4() {
        SackedGlass x = full();
        int[] was = Checks.all(x);
        int[][] wrong = {{0, 0, -1}, {0, 0, 100}, {1, 0, -1}, {1, 0, 1001}, {2, 0, -1000}, {2, 0, 1}, {3, 0, -1}, {3, 0, 10},
            {4, 0, -1000}, {4, 0, 1000}, {3, 3, 1}, {3, -1, 1}, {4, 3, 1}, {4, -1, 1}, {3, MOST, 1}, {4, LEAST, 1},
            {0, 0, MOST}, {1, 0, LEAST}, {2, 0, LEAST}, {3, 0, MOST}, {4, 0, MOST}, {-1, 0, 0}, {5, 0, 0}, {MOST, 0, 0},
            {LEAST, 0, 0}};
        for (int[] w : wrong) C.due("set(" + w[0] + ", " + w[1] + ", " + w[2] + ")", x.set(w[0], w[1], w[2]), false);
        still(x, was);
        C.due("FEAR of the last", x.set(3, 2, 9), true);
        C.due("STAND of the last", x.set(4, 2, 999), true);
        C.due("FEAR", x.of(2, 1), 9);
        C.due("STAND", x.of(2, 4), 999);
    }

    private static void promise5NotAsked() {
        SackedGlass x = Checks.court(0, 0, 0, 0);
        for (int v : new int[] {LEAST, -1, 100, MOST}) {
            C.due("NAME", x.act(0, 0, v), true);
            x.act(2, 0, 2);
            C.due("FREE", x.act(3, 0, v), true);
        }
        for (int v : new int[] {LEAST, -1, 100, MOST}) {
            x.set(4, 0, -50);
            x.act(0, 0, 0);
            x.days(1);
            C.due("RECALL", x.act(4, 0, v), true);
        }
    }

    private static void promise5() {
        SackedGlass x = full();
        int[] was = Checks.all(x);
        int[][] wrong = {{0, 3, 0}, {0, -1, 0}, {1, 3, 0}, {1, -1, 0}, {1, 0, -1}, {1, 0, 100}, {2, 3, 0}, {2, -1, 0},
            {2, 0, -1}, {2, 0, 5}, {3, 3, 0}, {3, -1, 0}, {3, 0, 0}, {4, 3, 0}, {4, -1, 0}, {4, 0, 0}, {5, 0, 0}, {-1, 0, 0},
            {MOST, 0, 0}, {LEAST, 0, 0}, {0, MOST, 0}, {1, LEAST, 0}, {1, 0, MOST}, {2, 0, LEAST}};
        for (int[] w : wrong) C.due("act(" + w[0] + ", " + w[1] + ", " + w[2] + ")", x.act(w[0], w[1], w[2]), false);
        still(x, was);
        SackedGlass y = Checks.court(0, 0, 0, 0);
        y.set(4, 0, -50);
        y.act(0, 0, 0);
        y.days(1);
        was = Checks.all(y);
        C.due("named: GONE", y.act(0, 0, 0), false);
        C.due("freed: no GLUE", y.act(3, 0, 0), false);
        C.due("recalled: not GONE", y.act(4, 1, 0), false);
        C.unchanged(y, was);
        C.due("one GONE is bribed", y.act(1, 0, 1), true);
        C.due("one GONE is glued", y.act(2, 0, 1), true);
        C.due("one GONE is freed", y.act(3, 0, 1), true);
        C.due("one GONE is recalled", y.act(4, 0, 1), true);
        C.due("it can be named then", y.act(0, 0, 1), true);
        C.due("named once more", y.act(0, 0, 1), true);
    }

    private static void promise6() {
        SackedGlass x = Checks.court(0, 0, 0, 0, 0, 0);
        C.due("one day, none falls", x.days(1), 0);
        C.due("DAY", x.look(1), 1);
        for (int t = 0; t < 3; t++) x.set(4, t, -100);
        C.due("sixty days, one falls on each of the first three", x.days(60), 3);
        C.due("DAY", x.look(1), 61);
        C.due("nobody is left", x.days(60), 0);
        SackedGlass y = Checks.court(0, 0);
        y.set(4, 0, -100);
        y.act(0, 0, 0);
        C.due("one day, one falls", y.days(1), 1);
        // Recalled each day it falls each day.
        SackedGlass z = Checks.court(0, 0);
        z.set(2, 0, 0);
        z.act(2, 0, 0);
        Checks.text(z, 2, "on 2 recall 0;on 4 recall 0;on 6 recall 0;");
        // DAY 0: named; 1: falls; 2: recalled, named; 3: falls; 4: recalled, named; and so on.
        C.due("it falls on 1, 3, 5 and 7", z.days(8), 4);
    }

    private static void promise6Refused() {
        SackedGlass x = full();
        int[] was = Checks.all(x);
        for (int n : new int[] {0, -1, 61, LEAST, MOST}) C.due("days(" + n + ")", x.days(n), NONE);
        still(x, was);
        SackedGlass y = Checks.court(0, 0);
        for (int i = 0; i < 166; i++) y.days(60);
        was = Checks.all(y);
        C.due("DAY", y.look(1), 9960);
        C.due("9960 and 40", y.days(40), NONE);
        C.due("9960 and 60", y.days(60), NONE);
        C.unchanged(y, was);
        C.due("9960 and 39", y.days(39), 0);
        C.due("DAY", y.look(1), 9999);
        C.due("9999 and 1", y.days(1), NONE);
        C.due("DAY", y.look(1), 9999);
        C.due("undone", y.undo(), true);
        C.due("9998 and 1", y.days(1), 0);
    }

    private static void promise7() {
        SackedGlass x = new SackedGlass();
        // "err ", "9-2", blanks; then "+1" and a blank, ";" as the very last byte.
        C.due("twenty", x.feed(0x65727220, 0x392d3220, 0x20202020, 0x20202020, 0x20202020), 20);
        C.due("forty", x.feed(0x2b312020, 0x20202020, 0x20202020, 0x20202020, 0x2020203b), 40);
        C.due("in their order", x.text(0), 1);
        x.teller(0, 0);
        C.due("9 - 2 + 1", x.of(0, 8), 8);
        // A byte above 127 in each place of a number is one byte.
        for (int shift = 0; shift < 32; shift += 8) {
            x.feed(0x20202020 & ~(255 << shift) | 0x80 << shift, 0x20202020, 0x20202020, 0x20202020, 0x20202020);
            C.due("no text", x.text(0), NONE);
            C.due("at its place", x.fault(1), 3 - shift / 8);
        }
        for (int i = 0; i < 5; i++) {
            int[] v = {0x20202020, 0x20202020, 0x20202020, 0x20202020, 0x20202020};
            v[i] = 0x2020203f;
            x.feed(v[0], v[1], v[2], v[3], v[4]);
            C.due("no text", x.text(0), NONE);
            C.due("at the end of number " + i, x.fault(1), 4 * i + 3);
        }
    }

    private static void promise7Full() {
        SackedGlass x = new SackedGlass();
        for (int i = 1; i <= 19; i++) x.feed(0x20202020, 0x20202020, 0x20202020, 0x20202020, 0x20202020);
        C.due("the twentieth", x.feed(0x65727220, 0x373b2020, 0x20202020, 0x20202020, 0x20202020), 400);
        C.due("one more", x.feed(0x3f3f3f3f, 0x3f3f3f3f, 0x3f3f3f3f, 0x3f3f3f3f, 0x3f3f3f3f), NONE);
        C.tape(x, 400);
        C.due("nothing came", x.text(0), 1);
        x.teller(0, 0);
        C.due("the last twenty count", x.of(0, 8), 7);
        for (int i = 1; i <= 20; i++) C.due("from empty on", x.feed(0, 0, 0, 0, 0), 20 * i);
        x.end(381);
        C.due("381 and 20", x.feed(0, 0, 0, 0, 0), NONE);
        C.tape(x, 381);
        x.end(380);
        C.due("380 and 20", x.feed(0, 0, 0, 0, 0), 400);
        x.end(1);
        C.due("1 and 20", x.feed(0, 0, 0, 0, 0), 21);
    }

    private static void promise8() {
        SackedGlass x = Checks.court(0, 0);
        C.due("none of none", x.end(0), true);
        Checks.feed(x, "err 12345");
        C.due("all", x.end(9), true);
        C.due("one less", x.end(8), true);
        C.due("five", x.end(5), true);
        // ";" behind what is left.
        C.due("behind these", x.feed(0x3b202020, 0x20202020, 0x20202020, 0x20202020, 0x20202020), 25);
        C.due("the first bytes alone", x.text(0), 1);
        C.due("err 1;", x.of(0, 8), 1);
        // What was cut off is not read on: neither a digit nor a letter of it.
        Checks.feed(x, "err 12345");
        x.end(8);
        C.due("a text that is cut off", x.text(0), NONE);
        C.due("at its end", x.fault(1), 8);
        Checks.feed(x, "err off");
        x.end(6);
        C.due("a word that is cut off", x.text(0), NONE);
        C.due("at its place", x.fault(1), 4);
        Checks.feed(x, "err 2;");
        C.due("none", x.end(0), true);
        C.due("an empty text", x.text(0), 0);
    }

    private static void promise8Refused() {
        SackedGlass x = full();
        int[] was = Checks.all(x);
        C.due("one more", x.end(8), false);
        C.due("below 0", x.end(-1), false);
        C.due("the least", x.end(LEAST), false);
        C.due("the greatest", x.end(MOST), false);
        C.due("beyond what can be", x.end(401), false);
        still(x, was);
        C.due("it is read", x.text(0), 1);
        C.due("of an empty one", x.end(1), false);
    }

    private static void promise9() {
        SackedGlass x = full();
        C.due("one line", x.text(0), 1);
        C.tape(x, 0);
        C.due("no line", x.text(0), 0);
        C.due("lines", x.look(11), 0);
        C.sound(x, 1, "for 1 rise 1;for 1 rise 1;", 2);
        C.tape(x, 0);
        C.sound(x, 2, "on 1 tap;on 1 tap;on 1 tap;", 3);
        C.tape(x, 0);
        C.due("no line", x.text(1), 0);
        C.due("no line", x.text(2), 0);
    }

    private static void promise9Refused() {
        SackedGlass x = full();
        C.faulty(x, 0, "tell 1", 1, 6);
        C.tape(x, 0);
        int[] was = Checks.all(x);
        C.faulty(x, 0, "tell 1/0;", 2, 7);
        C.tape(x, 0);
        C.faulty(x, 1, "for 1 rise 1;".repeat(13), 3, 156);
        C.tape(x, 0);
        C.faulty(x, 2, "on 1 tap;on 1 name 3;", 2, 19);
        C.tape(x, 0);
        C.faulty(x, 0, "tell 1", 1, 6);
        C.unchanged(x, was);
        for (int k : new int[] {3, -1, LEAST, MOST}) {
            C.faulty(x, 0, "tell 1", 1, 6);
            C.due("text(" + k + ")", Checks.text(x, k, "tell 1;"), NONE);
            C.due("fault(0)", x.fault(0), 0);
            C.due("fault(1)", x.fault(1), NONE);
        }
        C.faulty(x, 0, "tell 1", 1, 6);
        C.unchanged(x, was);
    }

    private static void promise10() {
        SackedGlass x = new SackedGlass();
        C.due("without any text", x.fault(0), 0);
        C.due("its place", x.fault(1), NONE);
        C.faulty(x, 0, "?", 1, 0);
        C.faulty(x, 0, "tell 1/0;", 2, 7);
        C.faulty(x, 1, "for 1 rise 1;".repeat(13), 3, 156);
        for (int w : new int[] {2, -1, 3, LEAST, MOST}) C.due("fault(" + w + ")", x.fault(w), NONE);
        C.due("it stays", x.fault(0), 3);
        x.feed(0, 0, 0, 0, 0);
        x.end(0);
        C.due("feed() and end() are no text()", x.fault(1), 156);
        C.sound(x, 2, "", 0);
    }

    private static void promise11() {
        SackedGlass x = Checks.court(0, 0);
        Checks.text(x, 0, "blame 7;");
        C.due("it SAID nothing", x.of(0, 9), 0);
        x.days(1);
        C.due("it SAID something", x.of(0, 9), 7);
        x.set(4, 0, -50);
        x.days(1);
        C.due("GONE, it SAID something on that day", x.of(0, 9), 7);
        x.days(1);
        C.due("GONE, it SAID nothing", x.of(0, 9), 0);
    }

    private static void promise11Refused() {
        SackedGlass x = new SackedGlass();
        C.due("no tellers", x.of(0, 0), NONE - 9999);
        x = Checks.court(5, 9);
        int[] due = {5, 9, 0, NONE, 0, 0, NONE, 2, 900, 0};
        for (int w = 0; w < 10; w++) C.due("of(0, " + w + ")", x.of(0, w), due[w]);
        for (int w : new int[] {-1, 10, LEAST, MOST}) C.due("of(0, " + w + ")", x.of(0, w), NONE - 9999);
        for (int t : new int[] {-1, 1, 9, 10, LEAST, MOST}) {
            for (int w = 0; w < 10; w++) C.due("of(" + t + ", " + w + ")", x.of(t, w), NONE - 9999);
        }
    }

    private static void promise12() {
        SackedGlass x = new SackedGlass();
        Checks.text(x, 1, "for 1 rise 40;for 1 fall 40;");
        C.due("moves(0)", x.moves(0), 40);
        C.due("moves(9999)", x.moves(9999), -40);
        for (int d : new int[] {-1, 10000, LEAST, MOST}) C.due("moves(" + d + ")", x.moves(d), NONE - 99);
        x.text(1);
        C.due("without rounds", x.moves(9999), 0);
        C.due("without rounds", x.moves(10000), NONE - 99);
    }

    private static void promise13() {
        SackedGlass x = Checks.court(0, 0);
        for (int i : new int[] {0, -1, LEAST, MOST}) C.due("of no lines", x.book(i, 0), NONE - 9999);
        x.act(1, 0, 9);
        x.act(2, 0, 4);
        C.line(x, 0, 0, 5, 0, 9);
        C.line(x, 1, 0, 6, 0, 4);
        for (int i : new int[] {2, -1, 149, 150, LEAST, MOST}) {
            for (int w = 0; w < 4; w++) C.due("book(" + i + ", " + w + ")", x.book(i, w), NONE - 9999);
        }
        for (int w : new int[] {4, -1, LEAST, MOST}) C.due("book(0, " + w + ")", x.book(0, w), NONE - 9999);
        x.undo();
        C.due("undone", x.book(1, 0), NONE - 9999);
    }

    private static void promise14() {
        SackedGlass x = Checks.court(0, 0);
        int[] due = {0, 0, 50, 0, NONE, NONE};
        for (int w = 0; w < 6; w++) C.due("goes(1, " + w + ")", x.goes(1, w), due[w]);
        for (int w : new int[] {-1, 6, LEAST, MOST}) C.due("goes(1, " + w + ")", x.goes(1, w), NONE - 99999);
        for (int n : new int[] {0, -1, 100, LEAST, MOST}) C.due("goes(" + n + ", 2)", x.goes(n, 2), NONE - 99999);
        C.due("goes(99, 2)", x.goes(99, 2), 50);
        C.due("MINISTER NONE", new SackedGlass().goes(99, 0), NONE);
        x.set(4, 0, -50);
        C.due("named on DAY 0, fallen on DAY 1", x.goes(2, 5), 1);
        C.due("who", x.goes(2, 4), 0);
        C.due("MINISTER NONE", x.goes(2, 0), NONE);
    }

    private static void promise15() {
        SackedGlass x = new SackedGlass();
        C.due("ahead(1)", x.ahead(1), 2);
        C.due("ahead(99)", x.ahead(99), 2);
        for (int n : new int[] {0, -1, 100, LEAST, MOST}) C.due("ahead(" + n + ")", x.ahead(n), NONE);
    }

    private static void promise16() {
        SackedGlass x = Checks.court(0, 0);
        C.due("right(0, 0)", x.right(0, 0), 0);
        C.due("right(0, 1)", x.right(0, 1), 0);
        for (int t : new int[] {-1, 1, 10, LEAST, MOST}) {
            for (int w = 0; w < 2; w++) C.due("right(" + t + ", " + w + ")", x.right(t, w), NONE);
        }
        for (int w : new int[] {-1, 2, LEAST, MOST}) C.due("right(0, " + w + ")", x.right(0, w), NONE);
    }

    private static void promise17() {
        SackedGlass x = new SackedGlass();
        C.due("no tellers", x.surest(), NONE);
        x.days(1);
        x.teller(0, 0);
        C.due("no day on which it told", x.surest(), NONE);
        x.days(1);
        C.due("one day", x.surest(), 0);
        x.set(4, 0, -50);
        x.days(1);
        C.due("GONE", x.surest(), NONE);
    }

    private static void promise18() {
        SackedGlass x = new SackedGlass();
        for (int k = -2; k <= 5; k++) C.due("no tellers", x.likely(k), NONE);
        x.teller(0, 0);
        for (int k = -2; k <= 5; k++) C.due("it SAID nothing", x.likely(k), NONE);
        x.days(1);
        C.due("BEST", x.likely(NONE), 2);
        C.due("likely(0)", x.likely(0), 40000L * 1000000 / 226666);
        C.due("likely(4)", x.likely(4), 40000L * 1000000 / 226666);
        for (int k : new int[] {-2, 5, LEAST, MOST}) C.due("likely(" + k + ")", x.likely(k), NONE);
    }

    private static void promise19() {
        SackedGlass x = new SackedGlass();
        C.due("no tellers", x.glued(), 0);
        for (int i = 0; i < 10; i++) x.teller(0, 0);
        C.due("no days", x.glued(), 0);
        x.set(2, 0, -999);
        x.act(2, 0, 1);
        x.act(2, 9, 1);
        Checks.text(x, 1, "for 1 rise 20;for 1 fall 20;");
        x.days(3);
        C.due("the first and the last", x.glued(), 1 | 1 << 9);
    }

    private static void promise20() {
        SackedGlass x = new SackedGlass();
        C.due("NONE of none", x.seen(NONE), 0);
        C.due("0", x.seen(0), 1);
        for (int g : new int[] {100, -2, LEAST, MOST}) C.due("seen(" + g + ")", x.seen(g), NONE);
        C.due("one", x.look(14), 1);
        for (int i = 2; i <= 12; i++) C.due("99", x.seen(99), i);
        C.due("a thirteenth", x.seen(0), NONE);
        C.due("a thirteenth that can't be", x.seen(100), NONE);
        C.due("twelve", x.look(14), 12);
        C.due("the last", x.round(0), 99);
        C.due("NONE of twelve", x.seen(NONE), 0);
        C.due("none", x.look(14), 0);
        C.due("nothing is then", x.round(NONE), NONE);
    }

    private static void promise21() {
        SackedGlass x = new SackedGlass();
        for (int n : new int[] {NONE, 0, 99, 100, -2}) C.due("without any", x.round(n), NONE);
        x.seen(8);
        C.due("ROUND", x.round(NONE), 1);
        C.due("AHEAD 0", x.round(0), 8);
        C.due("AHEAD 99", x.round(99), 8);
        for (int n : new int[] {100, -2, LEAST, MOST}) C.due("round(" + n + ")", x.round(n), NONE);
    }

    private static void promise22() {
        SackedGlass x = new SackedGlass();
        C.due("no tellers", x.safe(0, 0), NONE - 9999);
        x.teller(0, 0);
        C.due("the KIND", x.safe(0, 0), 2);
        C.due("how much", x.safe(0, 1), -17);
        for (int w : new int[] {-1, 2, LEAST, MOST}) C.due("safe(0, " + w + ")", x.safe(0, w), NONE - 9999);
        for (int t : new int[] {-1, 1, LEAST, MOST}) C.due("safe(" + t + ", 0)", x.safe(t, 0), NONE - 9999);
    }

    private static void promise23() {
        SackedGlass x = new SackedGlass();
        C.due("the first", x.works(1, 2, 1, 0), 1);
        C.due("none so", x.works(1, 3, 99, 0), NONE);
        C.due("no days", x.works(1, 3, 99, 1), 0);
        C.due("too few so", x.works(2, 2, 1, 0), NONE);
        C.due("how many days", x.works(2, 2, 1, 1), 1);
        int[][] wrong = {{0, 2, 9}, {21, 2, 99}, {1, -1, 9}, {1, 5, 9}, {1, 2, 0}, {1, 2, 100}, {LEAST, 2, 9}, {MOST, 2, 9},
            {1, LEAST, 9}, {1, MOST, 9}, {1, 2, LEAST}, {1, 2, MOST}};
        for (int[] w : wrong) {
            for (int what = 0; what < 2; what++) {
                C.due("works(" + w[0] + ", " + w[1] + ", " + w[2] + ", " + what + ")", x.works(w[0], w[1], w[2], what), NONE);
            }
        }
        for (int w : new int[] {-1, 2, LEAST, MOST}) C.due("works(1, 2, 9, " + w + ")", x.works(1, 2, 9, w), NONE);
    }

    private static void promise24() {
        SackedGlass x = Checks.court(0, 0);
        C.due("NONE of none", x.umbrella(NONE, LEAST), 0);
        C.due("one", x.umbrella(0, 0), 1);
        int[][] wrong = {{1, 0}, {-2, 0}, {0, -1}, {0, 12}, {LEAST, 0}, {MOST, 0}, {0, LEAST}, {0, MOST}};
        for (int[] w : wrong) C.due("umbrella(" + w[0] + ", " + w[1] + ")", x.umbrella(w[0], w[1]), NONE);
        C.due("one", x.look(15), 1);
        for (int i = 2; i <= 20; i++) C.due("umbrella", x.umbrella(0, 11), i);
        C.due("a 21st", x.umbrella(0, 5), NONE);
        C.due("it does not count", x.leaks(1 | 1 << 11, 1), 1);
        C.due("twenty", x.look(15), 20);
        C.due("NONE of twenty", x.umbrella(NONE, 0), 0);
        C.due("none are then", x.leaks(1 | 1 << 11, 1), NONE);
        C.due("the first again", x.umbrella(0, 3), 1);
    }

    private static void promise25Ask() {
        SackedGlass x = Checks.court(0, 0, 0, 0);
        C.due("none told of", x.leaks(0, 2), NONE);
        x.umbrella(1, 6);
        C.due("one told of", x.leaks(0, 2), NONE);
        x.umbrella(0, 7);
        for (int took : new int[] {0, -1, 4096, LEAST, MOST}) C.due("TOOK " + took, x.leaks(took, 2), 6);
    }

    private static void promise25() {
        SackedGlass x = Checks.court(0, 0, 0, 0);
        x.umbrella(1, 11);
        for (int i = 0; i < 11; i++) x.umbrella(0, i);
        C.due("how many", x.leaks(4095, 0), 2);
        C.due("the set", x.leaks(4095, 1), 3);
        C.due("by none: how many", x.leaks(1, 0), NONE);
        C.due("by none: the set", x.leaks(1, 1), NONE);
        C.due("nobody took: how many", x.leaks(0, 0), 0);
        C.due("nobody took: the set", x.leaks(0, 1), 0);
        for (int took : new int[] {4096, -1, 4096 | 4095, LEAST, MOST}) {
            for (int w = 0; w < 2; w++) C.due("leaks(" + took + ", " + w + ")", x.leaks(took, w), NONE);
        }
        for (int w : new int[] {-1, 3, LEAST, MOST}) C.due("leaks(4095, " + w + ")", x.leaks(4095, w), NONE);
    }

    private static void promise26() {
        SackedGlass x = new SackedGlass();
        C.due("how many of none", x.wins(0), NONE);
        C.due("the set of none", x.wins(1), NONE);
        x.teller(0, 9);
        C.due("how many", x.wins(0), 1);
        C.due("the set", x.wins(1), 1);
        for (int w : new int[] {-1, 2, LEAST, MOST}) C.due("wins(" + w + ")", x.wins(w), NONE);
        x.act(2, 0, 2);
        x.set(4, 0, -50);
        x.act(0, 0, 0);
        x.days(1);
        C.due("all are GONE", x.wins(0), NONE);
    }

    private static void promise27() {
        SackedGlass x = new SackedGlass();
        C.due("no tellers", x.weighs(0), NONE);
        x.teller(0, 0);
        C.due("one", x.weighs(0), 1);
        for (int t : new int[] {-1, 1, 9, 10, LEAST, MOST}) C.due("weighs(" + t + ")", x.weighs(t), NONE);
        x.set(4, 0, -50);
        x.act(0, 0, 0);
        x.days(1);
        C.due("GONE", x.weighs(0), 0);
    }

    private static void promise28() {
        SackedGlass x = Checks.court(0, 0);
        C.due("NONE of none", x.post(NONE, LEAST), 0);
        C.due("one", x.post(5, 1), 1);
        int[][] wrong = {{6, 1}, {-2, 1}, {0, 0}, {0, 100}, {0, -1}, {LEAST, 1}, {MOST, 1}, {0, LEAST}, {0, MOST}};
        for (int[] w : wrong) C.due("post(" + w[0] + ", " + w[1] + ")", x.post(w[0], w[1]), NONE);
        C.due("one", x.look(16), 1);
        for (int i = 2; i <= 6; i++) C.due("post", x.post(0, 1), i);
        C.due("a seventh", x.post(0, 99), NONE);
        C.due("six", x.look(16), 6);
        C.due("sum", x.serves(0), 2);
        C.due("NONE of six", x.post(NONE, 0), 0);
        C.due("none", x.look(16), 0);
        C.due("none is then", x.serves(0), 0);
    }

    private static void promise29() {
        SackedGlass x = Checks.court(0, 0);
        C.due("the sum of none", x.serves(0), 0);
        for (int i = 0; i < 6; i++) C.due("no post " + i, x.serves(10 + i), NONE);
        for (int i = 0; i < 6; i++) x.post(1, 1 + i);
        C.due("the sum", x.serves(0), 6);
        for (int i = 0; i < 5; i++) C.due("post " + i + " has nobody", x.serves(10 + i), NONE);
        C.due("the last post has it", x.serves(15), 0);
        for (int w : new int[] {-1, 1, 9, 16, LEAST, MOST}) C.due("serves(" + w + ")", x.serves(w), NONE);
    }

    private static void promise30() {
        SackedGlass x = new SackedGlass();
        C.due("none", x.hats(), 1);
        int[] due = {0, 1, 2, 9, 44, 265};
        for (int i = 0; i < 6; i++) {
            x.teller(i, 0);
            C.due("hats of " + (i + 1), x.hats(), due[i]);
        }
        for (int i = 0; i < 4; i++) x.teller(i, 0);
        C.due("ten: two each of four SORTS and two more", x.hats(), 542480);
    }

    private static void promise31() {
        SackedGlass x = new SackedGlass();
        for (int k = 0; k < 4; k++) C.due("mix(" + k + ", 99)", x.mix(k, 99), true);
        int[][] wrong = {{-1, 0}, {4, 0}, {0, -1}, {0, 100}, {LEAST, 0}, {MOST, 0}, {3, LEAST}, {3, MOST}};
        for (int[] w : wrong) C.due("mix(" + w[0] + ", " + w[1] + ")", x.mix(w[0], w[1]), false);
        C.due("all stay", x.mixes(1), 99000);
        // Asked for truth, she gets 2 and 3 by ease and truth told: the lesser one counts.
        SackedGlass y = new SackedGlass();
        y.mix(2, 7);
        y.mix(3, 5);
        C.due("truth each time", y.mixes(0), 1000);
        C.due("5 at the least", y.mixes(1), 5000);
        SackedGlass z = new SackedGlass();
        z.mix(0, 7);
        z.mix(1, 5);
        C.due("ease each time", z.mixes(0), 0);
        C.due("5 at the least", z.mixes(1), 5000);
        SackedGlass w = new SackedGlass();
        w.mix(1, 7);
        w.mix(3, 7);
        C.due("nothing if ease is told", w.mixes(1), 0);
    }

    private static void promise32() {
        SackedGlass x = new SackedGlass();
        C.due("p of none told", x.mixes(0), 0);
        C.due("the sum of none told", x.mixes(1), 0);
        for (int w : new int[] {-1, 2, LEAST, MOST}) C.due("mixes(" + w + ")", x.mixes(w), NONE);
    }

    private static void promise33() {
        SackedGlass x = new SackedGlass();
        C.due("nothing to tap: the TELLER", x.game(0), NONE);
        C.due("nothing to tap: how many", x.game(1), NONE);
        x.teller(0, 3);
        C.due("who begins loses: the TELLER", x.game(0), NONE);
        C.due("who begins loses: how many", x.game(1), NONE);
        x.teller(0, 8);
        // 8 leaves 2 by 3: 3 becomes 2 by one tap, or 8 becomes 6 by two.
        C.due("the TELLER", x.game(0), 0);
        C.due("how many", x.game(1), 1);
        for (int w : new int[] {-1, 2, LEAST, MOST}) C.due("game(" + w + ")", x.game(w), NONE);
    }

    private static void promise34() {
        SackedGlass x = Checks.court(0, 0);
        C.due("nothing", x.undo(), false);
        x.days(1);
        C.due("a day", x.undo(), true);
        int[] was = Checks.all(x);
        C.due("nothing more", x.undo(), false);
        C.due("and not again", x.undo(), false);
        C.unchanged(x, was);
        x.act(1, 0, 5);
        C.due("an act", x.undo(), true);
        C.due("nothing more", x.undo(), false);
        C.due("a refused call", x.act(1, 0, 100), false);
        C.due("is nothing to undo", x.undo(), false);
    }

    private static void promise35() {
        SackedGlass x = Checks.court(0, 0);
        x.days(1);
        int[] was = Checks.all(x);
        C.due("there is none", x.image(false), false);
        C.unchanged(x, was);
        C.due("taken", x.image(true), true);
        C.unchanged(x, was);
        C.due("taken again", x.image(true), true);
        C.due("gone back to", x.image(false), true);
        C.due("gone back to again", x.image(false), true);
        C.due("DAY", x.look(1), 1);
    }

    private static void promise36() {
        SackedGlass x = full();
        for (int w : new int[] {-1, 19, LEAST, MOST}) C.due("look(" + w + ")", x.look(w), NONE - 99999);
        C.due("the first", x.look(0), 3);
        C.due("the last", x.look(18), 2);
        SackedGlass y = new SackedGlass();
        y.state(NONE - 99999);
        C.due("STATE as it is", y.look(10), NONE - 99999);
        C.due("MINISTER NONE", y.look(4), NONE);
    }
}
