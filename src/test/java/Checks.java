import java.nio.charset.StandardCharsets;

/** What the tests share: counting answers that are not due, and feeding texts. */
final class Checks {
    private int wrong = 0;

    void due(String call, long got, long want) {
        if (got != want) {
            wrong++;
            System.out.println(call + " answered " + got + ", due is " + want);
        }
    }

    void due(String call, boolean got, boolean want) {
        due(call, got ? 1 : 0, want ? 1 : 0);
    }

    /** Tells how it went and ends with exit code 1 if anything was wrong. */
    void finish(String name) {
        System.out.println(name + (wrong == 0 ? ": all answers are as due" : ": " + wrong + " answers are not as due"));
        if (wrong != 0) System.exit(1);
    }

    /** Feeds a text behind what the tape has, which was empty. */
    static void feed(SackedGlass x, String text) {
        byte[] bytes = text.getBytes(StandardCharsets.ISO_8859_1);
        for (int from = 0; from < bytes.length; from += 20) {
            int[] v = new int[5];
            for (int i = 0; i < 20; i++) {
                int c = from + i < bytes.length ? bytes[from + i] & 255 : ' ';
                v[i / 4] = v[i / 4] << 8 | c;
            }
            x.feed(v[0], v[1], v[2], v[3], v[4]);
        }
        x.end(bytes.length);
    }

    static int text(SackedGlass x, int k, String text) {
        feed(x, text);
        return x.text(k);
    }

    /** A text that has this fault at this place. */
    void faulty(SackedGlass x, int k, String text, int fault, int place) {
        due("text(" + k + ") of \"" + text + "\"", text(x, k, text), SackedGlass.NONE);
        due("fault(0) of \"" + text + "\"", x.fault(0), fault);
        due("fault(1) of \"" + text + "\"", x.fault(1), place);
    }

    /** A text that has so many lines and no fault. */
    void sound(SackedGlass x, int k, String text, int lines) {
        due("text(" + k + ") of \"" + text + "\"", text(x, k, text), lines);
        due("fault(0) of \"" + text + "\"", x.fault(0), 0);
        due("fault(1) of \"" + text + "\"", x.fault(1), SackedGlass.NONE);
    }

    /** A line of the book, as its four numbers. */
    void line(SackedGlass x, int i, int day, int what, int which, int much) {
        due("book(" + i + ", 0)", x.book(i, 0), day);
        due("book(" + i + ", 1)", x.book(i, 1), what);
        due("book(" + i + ", 2)", x.book(i, 2), which);
        due("book(" + i + ", 3)", x.book(i, 3), much);
    }

    /** A new object with tellers of these sorts and fears, two numbers each. */
    static SackedGlass court(int... sortsAndFears) {
        SackedGlass x = new SackedGlass();
        for (int i = 0; i + 1 < sortsAndFears.length; i += 2) x.teller(sortsAndFears[i], sortsAndFears[i + 1]);
        return x;
    }
}
