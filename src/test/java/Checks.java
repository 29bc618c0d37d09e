import java.nio.charset.StandardCharsets;

/** What the tests share: counting answers that are not due, and feeding texts. */
final class Checks {
    private int wrong = 0;
    private String sentence = "";

    /** What is looked at from here on: told with each answer that is not due. */
    void about(String what) {
        sentence = what.isEmpty() ? "" : "\"" + what + "\": ";
    }

    void due(String call, long got, long want) {
        if (got != want) {
            wrong++;
            System.out.println(sentence + call + " answered " + got + ", due is " + want);
        }
    }

    void due(String call, boolean got, boolean want) {
        due(call, got ? 1 : 0, want ? 1 : 0);
    }

    /** Tells how it went and ends with exit code 1 if anything was wrong. */
    void finish(String name) {
        System.out.println(name + (wrong == 0 ? ": all answers are as due" : ": " + wrong + " answers are not as due"));
        if (wrong != 0) System.exit(1);
    }

    /** Feeds a text behind what the tape has, which was empty. */
    static void feed(SackedGlass x, String text) {
        byte[] bytes = text.getBytes(StandardCharsets.ISO_8859_1);
        for (int from = 0; from < bytes.length; from += 20) {
            int[] v = new int[5];
            for (int i = 0; i < 20; i++) {
                int c = from + i < bytes.length ? bytes[from + i] & 255 : ' ';
                v[i / 4] = v[i / 4] << 8 | c;
            }
            x.feed(v[0], v[1], v[2], v[3], v[4]);
        }
        x.end(bytes.length);
    }

    static int text(SackedGlass x, int k, String text) {
        feed(x, text);
        return x.text(k);
    }

    /** A text that has this fault at this place. */
    void faulty(SackedGlass x, int k, String text, int fault, int place) {
        due("text(" + k + ") of \"" + text + "\"", text(x, k, text), SackedGlass.NONE);
        due("fault(0) of \"" + text + "\"", x.fault(0), fault);
        due("fault(1) of \"" + text + "\"", x.fault(1), place);
    }

    /** A text that has so many lines and no fault. */
    void sound(SackedGlass x, int k, String text, int lines) {
        due("text(" + k + ") of \"" + text + "\"", text(x, k, text), lines);
        due("fault(0) of \"" + text + "\"", x.fault(0), 0);
        due("fault(1) of \"" + text + "\"", x.fault(1), SackedGlass.NONE);
    }

    /** A line of the book, as its four numbers. */
    void line(SackedGlass x, int i, int day, int what, int which, int much) {
        due("book(" + i + ", 0)", x.book(i, 0), day);
        due("book(" + i + ", 1)", x.book(i, 1), what);
        due("book(" + i + ", 2)", x.book(i, 2), which);
        due("book(" + i + ", 3)", x.book(i, 3), much);
    }

    /** What can be looked at without changing anything, in fewer calls than an object has. */
    static int[] all(SackedGlass x) {
        int[] all = new int[200];
        int n = 0;
        for (int w = 0; w <= 18; w++) all[n++] = x.look(w);
        int tellers = Math.min(4, all[0]);
        int lines = all[9];
        for (int t = 0; t < tellers; t++) for (int w = 0; w < 10; w++) all[n++] = x.of(t, w);
        for (int i = 1; i <= 3; i++) for (int w = 0; w < 4; w++) all[n++] = x.book(lines - i, w);
        for (int d = 0; d < 4; d++) all[n++] = x.moves(d);
        for (int w = 0; w < 2; w++) all[n++] = x.fault(w);
        for (int w = 0; w < 4; w++) all[n++] = x.goes(9, w);
        for (int w = 0; w < 2; w++) all[n++] = x.mixes(w);
        for (int i = -1; i < 3; i++) all[n++] = x.round(i);
        for (int w = 9; w < 16; w++) all[n++] = x.serves(w);
        for (int took = 0; took < 8; took++) all[n++] = x.leaks(took, 1);
        all[n++] = x.leaks(0, 2);
        all[n++] = x.serves(0);
        all[n++] = x.glued();
        all[n++] = x.surest();
        all[n] = x.likely(SackedGlass.NONE);
        return all;
    }

    /** Nothing of what can be looked at has changed since. */
    void unchanged(SackedGlass x, int[] was) {
        int[] is = all(x);
        for (int i = 0; i < was.length; i++) due("nothing changes: number " + i + " of all", is[i], was[i]);
    }

    /** So many bytes stand on the tape; looking changes nothing. */
    void tape(SackedGlass x, int bytes) {
        due("end() of all bytes of the tape", x.end(bytes), true);
        due("end() of one byte more", x.end(bytes + 1), false);
    }

    /** A new object with tellers of these sorts and fears, two numbers each. */
    static SackedGlass court(int... sortsAndFears) {
        SackedGlass x = new SackedGlass();
        for (int i = 0; i + 1 < sortsAndFears.length; i += 2) x.teller(sortsAndFears[i], sortsAndFears[i + 1]);
        return x;
    }
}
