/** Promises 34 to 36: what is undone, the image, and what can be looked at. */
public final class BackTest {
    private static final int NONE = SackedGlass.NONE;
    private static final Checks C = new Checks();

    public static void main(String[] args) {
        promise34Acts();
        promise34Days();
        promise34Kept();
        promise34Forgets();
        promise34DoesNotForget();
        promise34Texts();
        promise35Image();
        promise35Everything();
        promise36Look();
        C.finish("BackTest");
    }

    private static void promise34Acts() {
        SackedGlass x = Checks.court(0, 0, 1, 0);
        C.due("undo() of nothing", x.undo(), false);
        x.act(0, 1, 0);
        x.act(1, 0, 9);
        x.act(2, 0, 3);
        x.act(3, 0, 0);
        x.act(1, 1, 200);
        C.due("what was refused is no step", x.look(17), 4);
        C.due("undo the freeing", x.undo(), true);
        C.due("GLUE", x.of(0, 3), 3);
        C.due("undo the glueing", x.undo(), true);
        C.due("GLUE", x.of(0, 3), NONE);
        C.due("undo the bribing", x.undo(), true);
        C.due("BRIBE", x.of(0, 2), 0);
        C.due("COIN", x.look(6), 0);
        C.due("undo the naming", x.undo(), true);
        C.due("MINISTER", x.look(4), NONE);
        C.due("lines", x.look(9), 0);
        C.due("undo() of nothing more", x.undo(), false);
        x.act(0, 0, 0);
        x.set(4, 0, -50);
        x.days(1);
        x.act(4, 0, 0);
        x.undo();
        C.due("GONE again", x.of(0, 5), 1);
        C.due("STAND again", x.of(0, 4), -49);
        C.line(x, x.look(9) - 1, 0, 4, 1, 0);
    }

    private static void promise34Days() {
        SackedGlass x = Checks.court(0, 7, 1, 8);
        x.set(1, 0, 900);
        x.set(2, 0, -3);
        x.state(99);
        Checks.text(x, 1, "for 3 fall 20;for 3 rise 20;");
        Checks.text(x, 2, "on 1 glue 0 4;on 2 bribe 1 5;on 3 tap;");
        int[][] was = new int[9][];
        for (int d = 0; d < 8; d++) {
            was[d] = dump(x);
            x.days(1);
        }
        for (int d = 7; d >= 2; d--) {
            C.due("undo day " + d, x.undo(), true);
            same("day " + d, x, was[d]);
        }
        C.due("6 are kept", x.undo(), false);
        // Gone forward again, all is as it was.
        x.days(6);
        x.undo();
        x.undo();
        same("day 6 again", x, was[6]);
    }

    private static int[] dump(SackedGlass x) {
        int[] all = new int[1200];
        int n = 0;
        for (int w = 0; w <= 18; w++) all[n++] = w == 17 ? 0 : x.look(w);
        for (int t = 0; t < 10; t++) for (int w = 0; w < 10; w++) all[n++] = x.of(t, w);
        for (int i = 0; i < 150; i++) for (int w = 0; w < 4; w++) all[n++] = x.book(i, w);
        for (int t = 0; t < 10; t++) for (int w = 0; w < 2; w++) all[n++] = x.right(t, w);
        for (int d = 0; d < 99; d++) all[n++] = x.moves(d);
        for (int k = -1; k < 5; k++) all[n++] = x.likely(k);
        for (int w = 0; w < 6; w++) all[n++] = x.goes(9, w);
        for (int w = 0; w < 16; w++) all[n++] = x.serves(w);
        for (int c = 0; c < 64; c++) all[n++] = x.leaks(c, 1);
        for (int i = -1; i < 14; i++) all[n++] = x.round(i);
        all[n++] = x.leaks(0, 2);
        all[n++] = x.mixes(0);
        all[n++] = x.mixes(1);
        all[n++] = x.glued();
        all[n] = x.surest();
        return all;
    }

    private static void same(String what, SackedGlass x, int[] was) {
        int[] is = dump(x);
        for (int i = 0; i < was.length; i++) C.due(what + ", number " + i, is[i], was[i]);
    }

    private static void promise34Kept() {
        SackedGlass x = new SackedGlass();
        for (int i = 1; i <= 9; i++) {
            x.days(1);
            C.due("what can be undone", x.look(17), Math.min(i, 6));
        }
        x.undo();
        x.undo();
        C.due("four are left", x.look(17), 4);
        x.days(1);
        C.due("five then", x.look(17), 5);
        for (int i = 0; i < 5; i++) C.due("undo", x.undo(), true);
        C.due("DAY", x.look(1), 3);
        C.due("nothing more", x.undo(), false);
        x.days(60);
        for (int i = 0; i < 6; i++) C.due("undo", x.undo(), true);
        C.due("a DAY each", x.look(1), 57);
        C.due("nothing more", x.undo(), false);
    }

    private static SackedGlass withStep() {
        SackedGlass x = Checks.court(0, 0);
        x.days(1);
        return x;
    }

    private static void promise34Forgets() {
        SackedGlass x = withStep();
        x.state(0);
        C.due("state() forgets", x.look(17), 0);
        x = withStep();
        x.teller(0, 0);
        C.due("teller() forgets", x.look(17), 0);
        for (int what = 0; what < 5; what++) {
            x = withStep();
            x.set(what, 0, 0);
            C.due("set(" + what + ") forgets", x.undo(), false);
        }
        x = withStep();
        x.text(1);
        C.due("rounds forget", x.look(17), 0);
        x = withStep();
        x.text(2);
        C.due("an agenda forgets", x.look(17), 0);
        x = withStep();
        x.image(true);
        x.image(false);
        C.due("going back to the image forgets", x.look(17), 0);
    }

    private static void promise34DoesNotForget() {
        SackedGlass x = withStep();
        Checks.text(x, 0, "tell 1;");
        x.seen(5);
        x.seen(NONE);
        x.umbrella(0, 1);
        x.umbrella(NONE, 1);
        x.post(0, 1);
        x.post(NONE, 1);
        x.mix(0, 1);
        x.image(true);
        x.teller(9, 9);
        x.set(0, 0, 100);
        x.set(9, 0, 0);
        x.act(4, 0, 0);
        x.days(0);
        x.text(3);
        Checks.text(x, 1, "for");
        Checks.text(x, 2, "on");
        for (int w = 0; w < 19; w++) x.look(w);
        dump(x);
        C.due("none of these forgets", x.look(17), 1);
        C.due("undo()", x.undo(), true);
        C.due("DAY", x.look(1), 0);
        x = withStep();
        C.due("no image to go back to", x.image(false), false);
        C.due("what can be undone stays", x.look(17), 1);
    }

    private static void promise34Texts() {
        SackedGlass x = Checks.court(0, 0);
        x.days(1);
        Checks.text(x, 0, "tell 1;tell 2;");
        x.seen(5);
        x.umbrella(0, 3);
        x.post(1, 7);
        x.mix(3, 9);
        Checks.feed(x, "tell 1;tell");
        x.undo();
        C.due("the law stays", x.look(11), 2);
        C.due("SEEN stays", x.look(14), 1);
        C.due("UMBRELLAS stay", x.look(15), 1);
        C.due("POSTS stay", x.look(16), 1);
        C.due("MIXES stay", x.mixes(0), 0);
        C.due("the tape stays", x.end(11), true);
        x.end(7);
        C.due("and is read", x.text(0), 1);
    }

    private static void promise35Image() {
        SackedGlass x = Checks.court(0, 3, 1, 0);
        C.due("no image", x.image(false), false);
        C.due("an image", x.image(true), true);
        x.teller(2, 2);
        x.days(3);
        C.due("go back", x.image(false), true);
        C.due("TELLERS", x.look(0), 2);
        C.due("DAY", x.look(1), 0);
        C.due("what can be undone", x.undo(), false);
        x.days(7);
        C.due("go back once more", x.image(false), true);
        C.due("DAY", x.look(1), 0);
        x.days(2);
        x.image(true);
        C.due("taking it forgets nothing", x.look(17), 2);
        x.undo();
        C.due("undone behind it", x.look(1), 1);
        x.image(false);
        C.due("as it was when it was taken", x.look(1), 2);
        // The book's line is written over by another one, then comes back.
        x.act(1, 0, 5);
        int last = x.look(9) - 1;
        x.image(true);
        x.undo();
        x.act(2, 1, 3);
        C.line(x, last, 2, 6, 1, 3);
        x.image(false);
        C.line(x, last, 2, 5, 0, 5);
        Checks.feed(x, "tell 1;");
        x.image(true);
        x.end(4);
        x.image(false);
        C.due("not the tape", x.end(5), false);
        x.end(0);
        C.faulty(x, 0, "tell 1/0;", 2, 7);
        x.image(false);
        C.due("not fault()", x.fault(0), 2);
        C.due("nor its place", x.fault(1), 7);
    }

    private static void promise35Everything() {
        SackedGlass x = Checks.court(0, 7, 1, 8, 2, 3);
        x.set(1, 0, 900);
        x.set(2, 0, -20);
        x.state(1234);
        Checks.text(x, 0, "tell kind+1 when day/2*2=day;err 300;blame off*off;");
        Checks.text(x, 1, "for 3 fall 20;for 4 rise 20;");
        Checks.text(x, 2, "on 1 glue 0 4;on 2 bribe 1 5;on 3 tap;");
        x.seen(1);
        x.seen(2);
        x.umbrella(0, 1);
        x.umbrella(1, 2);
        x.post(1, 5);
        x.mix(0, 7);
        x.mix(3, 9);
        x.days(5);
        x.image(true);
        int[] was = dump(x);
        // All tell on, so that each day of the record is written over by another one.
        x.set(2, 0, -999);
        for (int t = 0; t < 3; t++) {
            x.act(4, t, 0);
            x.act(2, t, t);
        }
        x.set(0, 0, 99);
        Checks.text(x, 1, "for 1 rise 40;");
        x.days(60);
        x.days(60);
        x.set(1, 0, 0);
        x.set(3, 0, 0);
        x.state(5);
        x.text(0);
        x.text(1);
        x.text(2);
        x.seen(NONE);
        x.seen(9);
        x.umbrella(NONE, 0);
        x.umbrella(2, 5);
        x.post(NONE, 0);
        x.post(2, 9);
        x.mix(0, 99);
        x.mix(1, 99);
        x.image(false);
        same("the image", x, was);
        x.days(3);
        int[] then = dump(x);
        x.image(false);
        x.days(3);
        same("all goes on from it alike", x, then);
    }

    private static void promise36Look() {
        SackedGlass x = Checks.court(0, 0, 1, 0, 2, 0);
        x.set(0, 0, 61);
        x.set(1, 0, 7);
        x.set(2, 0, -99);
        x.state(-17);
        Checks.text(x, 0, "tell 1;");
        Checks.text(x, 1, "for 1 rise 1;for 1 fall 1;");
        Checks.text(x, 2, "on 1 tap;on 1 tap;on 1 tap;");
        for (int i = 0; i < 4; i++) x.seen(i);
        for (int i = 0; i < 5; i++) x.umbrella(i % 3, i);
        for (int i = 0; i < 6; i++) x.post(i, 9);
        x.act(0, 2, 0);
        x.act(1, 2, 50);
        int[] due = {3, 0, 61, 3, 2, 0, -50, 7, -99, 2, -17, 1, 2, 3, 4, 5, 6, 2, 0};
        for (int w = 0; w < due.length; w++) C.due("look(" + w + ")", x.look(w), due[w]);
        x.set(1, 0, 0);
        x.set(0, 0, 0);
        x.act(2, 2, 2);
        x.days(1);
        C.due("DAY", x.look(1), 1);
        C.due("FLOODS", x.look(5), 1);
        C.due("days of the record", x.look(18), 1);
        C.due("look(19)", x.look(19), NONE - 99999);
        C.due("look(-1)", x.look(-1), NONE - 99999);
        for (int g : new int[] {0, 19, 20, 39, 40, 59, 60, 79, 80, 99}) {
            x.set(0, 0, g);
            C.due("KIND of " + g, x.look(3), g / 20);
        }
    }
}
