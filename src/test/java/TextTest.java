/** Promises 7 to 10: the tape, the three texts and their faults. */
public final class TextTest {
    private static final int NONE = SackedGlass.NONE;
    private static final Checks C = new Checks();

    public static void main(String[] args) {
        promise7Feed();
        promise8End();
        promise9Text();
        promise9FullTape();
        promise9LawMeans();
        promise9LawLines();
        promise10FaultsOfTokens();
        promise10FaultsOfLaw();
        promise10FaultsOfDepth();
        promise10FaultsOfRounds();
        promise10FaultsOfAgenda();
        promise10FaultsOfLines();
        C.finish("TextTest");
    }

    private static void promise7Feed() {
        SackedGlass x = new SackedGlass();
        for (int i = 1; i <= 20; i++) C.due("feed " + i, x.feed(0x20202020, 0x0a0a0a0a, 0x20202020, 0x20202020, 0x20202020), 20 * i);
        C.due("a 21st feed", x.feed(0, 0, 0, 0, 0), NONE);
        C.due("nothing came", x.end(401), false);
        C.due("blanks are an empty text", x.text(0), 0);
        C.due("the tape is empty then", x.feed(0x66000000, 0, 0, 0, 0), 20);
        x.end(0);
        for (int i = 0; i < 20; i++) x.feed(0, 0, 0, 0, 0);
        x.end(381);
        C.due("381 and 20 are too many", x.feed(0, 0, 0, 0, 0), NONE);
        x.end(380);
        C.due("380 and 20 are not", x.feed(0, 0, 0, 0, 0), 400);
        x.end(0);
        // "for ", "1 ri", "se 7", ";   ": of each number the highest byte first.
        C.due("feed", x.feed(0x666f7220, 0x31207269, 0x73652037, 0x3b202020, 0x20202020), 20);
        C.due("text", x.text(1), 1);
        C.due("moves", x.moves(0), 7);
        // Bytes above 127 are bytes, not numbers below 0.
        x.feed(0xffffffff, 0xffffffff, 0xffffffff, 0xffffffff, 0xffffffff);
        C.due("text of 255s", x.text(0), NONE);
        C.due("fault", x.fault(0), 1);
    }

    /** As many tokens as a tape can have. */
    private static void promise9FullTape() {
        SackedGlass x = Checks.court(0, 0);
        C.faulty(x, 0, ";".repeat(400), 1, 0);
        C.faulty(x, 0, "(".repeat(400), 1, 0);
        C.faulty(x, 0, "tell 1" + "+1".repeat(197), 1, 400);
        C.sound(x, 0, "err 1" + "+1".repeat(197) + ";", 1);
        C.due("all are added", x.of(0, 8), 198);
        C.sound(x, 0, "err 1 when 1=1" + "and 1=1".repeat(55) + ";", 1);
        C.due("all are so", x.of(0, 8), 1);
        C.sound(x, 0, "err 1 when 2=1" + " or 2=1".repeat(54) + " or 1=1;", 1);
        C.due("the last one is so", x.of(0, 8), 1);
        C.sound(x, 1, ("for 1 rise 40;" + " ".repeat(19)).repeat(12) + " ".repeat(4), 12);
    }

    private static void promise8End() {
        SackedGlass x = new SackedGlass();
        C.due("end(0) of none", x.end(0), true);
        C.due("end(1) of none", x.end(1), false);
        C.due("end(-1)", x.end(-1), false);
        Checks.feed(x, "for 2 rise 30;");
        C.due("end(15) of 14", x.end(15), false);
        C.due("end(14) of 14", x.end(14), true);
        C.due("end(-1)", x.end(-1), false);
        C.due("nothing changed", x.text(1), 1);
        Checks.feed(x, "for 2 rise 30;for");
        C.due("end(14) of 17", x.end(14), true);
        C.due("the first bytes alone", x.text(1), 1);
    }

    private static void promise9Text() {
        SackedGlass x = Checks.court(0, 0);
        C.sound(x, 0, "tell 1;tell 2;", 2);
        C.sound(x, 1, "for 1 rise 1;", 1);
        C.sound(x, 2, "on 0 tap;on 1 tap;on 2 tap;", 3);
        C.due("lines of the law", x.look(11), 2);
        C.due("lines of rounds", x.look(12), 1);
        C.due("lines of the agenda", x.look(13), 3);
        C.due("text(3)", Checks.text(x, 3, "x"), NONE);
        C.due("fault of text(3)", x.fault(0), 0);
        C.due("its place", x.fault(1), NONE);
        C.due("text(-1)", Checks.text(x, -1, "tell 1;"), NONE);
        C.due("the tape is empty then", x.feed(0, 0, 0, 0, 0), 20);
        C.due("zeros are no text", x.text(0), NONE);
        C.due("the law stays as it was", x.look(11), 2);
        C.due("and tells as it did", x.of(0, 7), 1);
        C.faulty(x, 1, "for 1 rise 2", 1, 12);
        C.due("rounds stay as they were", x.moves(0), 1);
        C.faulty(x, 2, "on 0 tap;on", 1, 11);
        C.due("the agenda stays as it was", x.look(13), 3);
        C.due("the tape is empty behind a fault", x.text(0), 0);
        C.due("an empty law", x.look(11), 0);
        C.sound(x, 1, "", 0);
        C.sound(x, 2, " \n ", 0);
        C.due("no lines", x.look(12) + x.look(13), 0);
    }

    /** What tell is by a law for one teller of SORT 3, FEAR 5, with GLASS 50, when it is held to 0 .. 1000 as err. */
    private static void err(String law, int want) {
        SackedGlass x = Checks.court(3, 5);
        x.act(1, 0, 9);
        x.set(4, 0, -7);
        C.due("\"" + law + "\" is read", Checks.text(x, 0, law) > 0, true);
        C.due("\"" + law + "\"", x.of(0, 8), want);
    }

    private static void promise9LawMeans() {
        err("err 2+3*4;", 14);
        err("err 20-3-4;", 13);
        err("err 20-3+4;", 21);
        err("err 7*9/2/3;", 10);
        err("err 7/2*9;", 27);
        err("err 2*3+4*5-6;", 20);
        err("err stand/2+10;", 7);
        err("err sort*100+bribe;", 309);
        err("err glass+kind+fear+day+minister+off;", 57);
        err("err 9999*9999*9999*9999*2;", wrapped(9999 * 9999 * 9999 * 9999 * 2));
        err("err 9999*9999*9999*9999/2;", wrapped(9999 * 9999 * 9999 * 9999 / 2));
        err("err0007;", 7);
        err("err\n7\n;\n", 7);
        err("err 7when 1<2;", 7);
        err("err 7when 2<1;", 500);
        err("err 1 when 2<1;err 2 when 2=1;err 3 when 2>1;err 4;", 3);
        err("err 1 when 1<1;err 2 when 1>1;err 3 when 1=1;", 3);
        err("tell 9;blame 8;err 6;err 5;", 6);
        err("err 1 when 1=1 or 1=1 and 1=2;", 1);
        err("err 1 when 1=2 and 1=1 or 1=1;", 1);
        err("err 1 when 1=2 and (1=1 or 1=1);", 500);
        err("err 1 when not 1=2 and 1=1;", 1);
        err("err 1 when not 1=1 or 1=1;", 1);
        err("err 1 when not (1=1 or 1=1);", 500);
        err("err 1 when not not 1=1;", 1);
        err("err 1 when ((1=1) and (not (1=2)));", 1);
        err("err 1 when 1=1 or 1=2 and 1=2 or 1=2;", 1);
        err("err 1 when 1+1=2*1 and 10-7<2+2;", 1);
        err("err 1 when stand<0 and stand>0-8 and stand+7=0;", 1);
    }

    private static int wrapped(int v) {
        return Math.max(0, Math.min(1000, v));
    }

    private static void promise9LawLines() {
        SackedGlass x = Checks.court(3, 5, 2, 1);
        Checks.text(x, 0, "tell 4 when minister=1;tell sort-1 when day>1;tell 0;");
        C.due("not the minister", x.of(0, 7), 0);
        x.act(0, 1, 0);
        C.due("the minister", x.of(1, 7), 4);
        C.due("the other one", x.of(0, 7), 0);
        Checks.text(x, 0, "tell 4 when minister=1;tell sort-1 when day>1;tell 0;err 0;blame 0;");
        x.days(2);
        C.due("by day", x.of(0, 7), 2);
        // The morning's glass is told, the evening's is blamed.
        x = Checks.court(0, 0);
        Checks.text(x, 0, "blame glass+kind*10;");
        Checks.text(x, 1, "for 1 rise 20;");
        x.set(2, 0, -999);
        x.days(1);
        C.due("SAID by the morning", x.of(0, 6), 2);
        C.due("blamed by the evening", x.of(0, 4), -99);
    }

    private static void promise10FaultsOfTokens() {
        SackedGlass x = new SackedGlass();
        C.due("fault(0) at first", x.fault(0), 0);
        C.due("fault(1) at first", x.fault(1), NONE);
        C.due("fault(2)", x.fault(2), NONE);
        C.due("fault(-1)", x.fault(-1), NONE);
        C.faulty(x, 0, "tell 12345;", 1, 5);
        C.faulty(x, 0, "tell 00001;", 1, 5);
        C.faulty(x, 0, "tells 1;", 1, 0);
        C.faulty(x, 0, "tel 1;", 1, 0);
        C.faulty(x, 0, "Tell 1;", 1, 0);
        C.faulty(x, 0, "tellX 1;", 1, 0);
        C.faulty(x, 0, "tellA 1;", 1, 0);
        C.faulty(x, 0, "tellZ 1;", 1, 0);
        C.faulty(x, 0, "tella 1;", 1, 0);
        C.faulty(x, 0, "tellz 1;", 1, 0);
        C.faulty(x, 0, "tell@1;", 1, 4);
        C.faulty(x, 0, "tell[1;", 1, 4);
        C.faulty(x, 0, "tell`1;", 1, 4);
        C.faulty(x, 0, "tell{1;", 1, 4);
        C.faulty(x, 0, "tell:1;", 1, 4);
        C.faulty(x, 0, "tell 1 whenday=1;", 1, 7);
        C.faulty(x, 0, "tell 1.", 1, 6);
        C.faulty(x, 0, "tell\t1;", 1, 4);
        C.faulty(x, 0, "  for 1 rise 1;", 1, 2);
        C.faulty(x, 1, "tell 1;", 1, 0);
        C.faulty(x, 2, "for 1 rise 1;", 1, 0);
        C.faulty(x, 0, "tell rise;", 1, 5);
        C.faulty(x, 0, "\u00e9", 1, 0);
        C.faulty(x, 0, "tell 1   ", 1, 9);
        C.faulty(x, 0, "tell 1;  ;", 1, 9);
        C.faulty(x, 0, ";", 1, 0);
        C.due("a sound text has no fault", Checks.text(x, 0, "tell 1;"), 1);
        C.due("fault(0) behind it", x.fault(0), 0);
        C.due("fault(1) behind it", x.fault(1), NONE);
    }

    private static void promise10FaultsOfLaw() {
        SackedGlass x = Checks.court(0, 0);
        C.faulty(x, 0, "tell", 1, 4);
        C.faulty(x, 0, "tell 1", 1, 6);
        C.faulty(x, 0, "tell 1 2;", 1, 7);
        C.faulty(x, 0, "tell +1;", 1, 5);
        C.faulty(x, 0, "tell 1+;", 1, 7);
        C.faulty(x, 0, "tell (1);", 1, 5);
        C.faulty(x, 0, "tell 1/kind;", 1, 7);
        C.faulty(x, 0, "tell 1/0;", 2, 7);
        C.faulty(x, 0, "tell 1/ 0000 ;", 2, 8);
        C.faulty(x, 0, "tell 1/0 1;", 2, 7);
        C.faulty(x, 0, "tell 1 1/0;", 1, 7);
        C.faulty(x, 0, "tell 0*0;tell 1/00", 2, 16);
        C.faulty(x, 0, "tell 1 when;", 1, 11);
        C.faulty(x, 0, "tell 1 when 1;", 1, 13);
        C.faulty(x, 0, "tell 1 when 1<;", 1, 14);
        C.faulty(x, 0, "tell 1 when 1<2<3;", 1, 15);
        C.faulty(x, 0, "tell 1 when 1=2/0;", 2, 16);
        C.faulty(x, 0, "tell 1 when (1=2;", 1, 16);
        C.faulty(x, 0, "tell 1 when 1=2);", 1, 15);
        C.faulty(x, 0, "tell 1 when (1)=2;", 1, 14);
        C.faulty(x, 0, "tell 1 when not;", 1, 15);
        C.faulty(x, 0, "tell 1 when 1=1 and;", 1, 19);
        C.faulty(x, 0, "tell 1 when 1=1 or or 1=1;", 1, 19);
        C.faulty(x, 0, "tell 1 when 1=1 when 1=1;", 1, 16);
        C.faulty(x, 0, "tell tell;", 1, 5);
        C.faulty(x, 0, "when 1=1;", 1, 0);
    }

    private static void promise10FaultsOfDepth() {
        SackedGlass x = Checks.court(0, 0);
        C.sound(x, 0, "tell 1 when ((((((((1=1))))))));", 1);
        C.faulty(x, 0, "tell 1 when (((((((((1=1)))))))));", 3, 20);
        C.sound(x, 0, "tell 1 when not(not(not(not(1=1))));", 1);
        C.faulty(x, 0, "tell 1 when not(not(not(not(not 1=1))));", 3, 28);
        C.faulty(x, 0, "tell 1 when not(not(not(not((1=1)))));", 3, 28);
        // One that is closed is not open any more.
        C.sound(x, 0, "tell 1 when not 1=1 and not 1=1 or (1=1) and (1=1) and (1=1) and not 1=2 and not 1=2 and "
                + "(1=1) and (1=1) and not (1=2) and ((((((((1=1))))))));", 1);
        C.faulty(x, 0, "tell 1 when (1=1) and (((((((((", 3, 30);
        C.faulty(x, 0, "tell 1 when (((((((( 1 ((", 1, 23);
    }

    private static void promise10FaultsOfRounds() {
        SackedGlass x = new SackedGlass();
        C.sound(x, 1, "for 1 rise 0;for 30 fall 40;", 2);
        C.faulty(x, 1, "for 0 rise 0;", 2, 4);
        C.faulty(x, 1, "for 31 rise 0;", 2, 4);
        C.faulty(x, 1, "for 1 rise 41;", 2, 11);
        C.faulty(x, 1, "for 1 fall 9999;", 2, 11);
        C.faulty(x, 1, "for 0 go;", 2, 4);
        C.faulty(x, 1, "for rise 1;", 1, 4);
        C.faulty(x, 1, "for 1 for 1;", 1, 6);
        C.faulty(x, 1, "for 1 rise;", 1, 10);
        C.faulty(x, 1, "for 1 rise 1 1;", 1, 13);
        C.faulty(x, 1, "for 1 rise 1 for", 1, 13);
    }

    private static void promise10FaultsOfAgenda() {
        SackedGlass x = Checks.court(0, 0, 0, 0);
        C.sound(x, 2, "on 999 name 1;on 0 bribe 0 99;on 7 glue 1 4;on 7 free 0;on 7 recall 0;on 7 tap;", 6);
        C.sound(x, 2, "on 0 bribe 1 0;on 0 glue 0 0;", 2);
        C.faulty(x, 2, "on 1000 tap;", 2, 3);
        C.faulty(x, 2, "on tap;", 1, 3);
        C.faulty(x, 2, "on 1;", 1, 4);
        C.faulty(x, 2, "on 1 on;", 1, 5);
        C.faulty(x, 2, "on 1 2;", 1, 5);
        C.faulty(x, 2, "on 1 name 2;", 2, 10);
        C.faulty(x, 2, "on 1 name;", 1, 9);
        C.faulty(x, 2, "on 1 name 1 1;", 1, 12);
        C.faulty(x, 2, "on 1 bribe 1;", 1, 12);
        C.faulty(x, 2, "on 1 bribe 1 100;", 2, 13);
        C.faulty(x, 2, "on 1 bribe 2 100;", 2, 11);
        C.faulty(x, 2, "on 1 glue 0 5;", 2, 12);
        C.faulty(x, 2, "on 1 free 2;", 2, 10);
        C.faulty(x, 2, "on 1 recall 2;", 2, 12);
        C.faulty(x, 2, "on 1 tap 0;", 1, 9);
        C.faulty(new SackedGlass(), 2, "on 1 name 0;", 2, 10);
    }

    private static void promise10FaultsOfLines() {
        SackedGlass x = Checks.court(0, 0);
        C.sound(x, 0, "tell 1;".repeat(16), 16);
        C.faulty(x, 0, "tell 1;".repeat(17), 3, 16 * 7);
        C.faulty(x, 0, "tell 1;".repeat(16) + " off", 1, 16 * 7 + 1);
        C.faulty(x, 0, "tell 1;".repeat(16) + " blame", 3, 16 * 7 + 1);
        C.sound(x, 1, "for 1 rise 1;".repeat(12), 12);
        C.faulty(x, 1, "for 1 rise 1;".repeat(13), 3, 12 * 13);
        C.faulty(x, 1, "for 1 rise 1;".repeat(12) + "rise", 1, 12 * 13);
        C.sound(x, 2, "on 1 tap;".repeat(16), 16);
        C.faulty(x, 2, "on 1 tap;".repeat(17), 3, 16 * 9);
        C.faulty(x, 2, "on 1 tap;".repeat(16) + "tap", 1, 16 * 9);
        C.due("the first sixteen stay as they were", x.look(13), 16);
    }
}
