import java.util.ArrayList;
import java.util.List;
import java.util.Random;

/** Random runs of calls, each answer compared with that of the Model. */
public final class ModelTest {
    private static final int CALLS = 512;
    private static int wrong = 0;

    private final Random random;
    private final int seed;
    private final SackedGlass glass = new SackedGlass();
    private final Model model = new Model();
    private final List<String> calls = new ArrayList<>();

    private ModelTest(int seed) {
        this.seed = seed;
        this.random = new Random(seed);
    }

    public static void main(String[] args) {
        int runs = args.length > 0 ? Integer.parseInt(args[0]) : 400;
        int from = args.length > 1 ? Integer.parseInt(args[1]) : 1;
        for (int seed = from; seed < from + runs && wrong == 0; seed++) {
            new ModelTest(seed).run();
        }
        System.out.println(wrong == 0 ? "all answers are the model's" : "answers are not the model's");
        if (wrong != 0) System.exit(1);
    }

    private int below(int n) {
        return random.nextInt(n);
    }

    /** Mostly within the bounds, at times just or far beyond them. */
    private int about(int least, int most) {
        int way = below(24);
        if (way == 0) return least - 1;
        if (way == 1) return most + 1;
        if (way == 2 && below(4) == 0) return random.nextInt();
        if (way == 3) return least;
        if (way == 4) return most;
        return least + below(most - least + 1);
    }

    private void due(String call, long got, long want) {
        calls.add(call + " -> " + got);
        if (got == want) return;
        if (wrong++ > 0) return;
        System.out.println("seed " + seed + ": " + call + " answered " + got + ", due is " + want + ", behind:");
        for (String c : calls) System.out.println("  " + c);
    }

    private void due(String call, boolean got, boolean want) {
        due(call, got ? 1 : 0, want ? 1 : 0);
    }

    private void run() {
        int tellers = below(11);
        for (int i = 0; i < tellers; i++) teller(below(6), below(10));
        boolean calm = below(2) == 0;
        boolean thinks = below(3) == 0;
        for (int i = tellers; i < CALLS && wrong == 0; i++) {
            int way = below(100);
            if (way < 8) {
                changeText();
            } else if (way < 20) {
                days();
            } else if (way < 30) {
                byHand();
            } else if (way < (calm ? 31 : 38)) {
                changeState();
            } else if (way < 45) {
                undoOrImage();
            } else if (way < 55) {
                tellThought();
            } else if (way < 70 || !thinks && way < 85) {
                lookAround();
            } else {
                think();
            }
        }
        if (wrong == 0) lookAtAll();
    }

    private void teller(int sort, int fear) {
        due("teller(" + sort + ", " + fear + ")", glass.teller(sort, fear), model.teller(sort, fear));
    }

    private void days() {
        int n = below(3) == 0 ? about(1, 60) : 1 + below(5);
        due("days(" + n + ")", glass.days(n), model.days(n));
    }

    private void byHand() {
        int what = about(0, 4);
        int t = about(0, 9);
        int v = what == 2 ? about(0, 4) : about(0, 99);
        due("act(" + what + ", " + t + ", " + v + ")", glass.act(what, t, v), model.act(what, t, v));
    }

    private void changeState() {
        int way = below(8);
        if (way == 0) {
            int v = random.nextInt();
            due("state(" + v + ")", glass.state(v), model.state(v));
        } else if (way == 1) {
            teller(about(0, 5), about(0, 9));
        } else {
            int what = about(0, 4);
            int who = about(0, 9);
            int v = what == 0 ? about(0, 99) : what == 1 ? about(0, 1000) : what == 2 ? about(-999, 0)
                    : what == 3 ? about(0, 9) : about(-999, 999);
            if (what == 4 && below(2) == 0) v = about(-30, 30);
            if (what == 2 && below(2) == 0) v = about(-40, 0);
            due("set(" + what + ", " + who + ", " + v + ")", glass.set(what, who, v), model.set(what, who, v));
        }
    }

    private void undoOrImage() {
        int way = below(12);
        if (way == 0) due("image(true)", glass.image(true), model.image(true));
        else if (way == 1) due("image(false)", glass.image(false), model.image(false));
        else due("undo()", glass.undo(), model.undo());
    }

    private void tellThought() {
        int way = below(5);
        if (way == 0) {
            int g = below(4) == 0 ? about(-1, 99) : below(3);
            due("seen(" + g + ")", glass.seen(g), model.seen(g));
        } else if (way == 1) {
            int a = below(60) == 0 ? -1 : about(0, 9);
            int b = below(2) == 0 ? below(4) : about(0, 11);
            due("umbrella(" + a + ", " + b + ")", glass.umbrella(a, b), model.umbrella(a, b));
        } else if (way == 2) {
            int sort = below(12) == 0 ? -1 : about(0, 5);
            int worth = below(2) == 0 ? 1 + below(4) : about(1, 99);
            due("post(" + sort + ", " + worth + ")", glass.post(sort, worth), model.post(sort, worth));
        } else {
            int k = about(0, 3);
            int v = about(0, 99);
            due("mix(" + k + ", " + v + ")", glass.mix(k, v), model.mix(k, v));
        }
    }

    private void lookAround() {
        int way = below(7);
        if (way == 0) look(about(0, 18));
        else if (way == 1) of(about(0, 9), about(0, 9));
        else if (way == 2) book(about(0, Math.max(0, model.look(9) - 1)), about(0, 3));
        else if (way == 3) {
            int day = about(0, below(2) == 0 ? 60 : 9999);
            due("moves(" + day + ")", glass.moves(day), model.moves(day));
        } else if (way == 4) {
            int t = about(0, 9);
            int what = about(0, 1);
            due("right(" + t + ", " + what + ")", glass.right(t, what), model.right(t, what));
        } else if (way == 5) {
            int what = about(0, 1);
            due("fault(" + what + ")", glass.fault(what), model.fault(what));
        } else {
            int n = about(1, 99);
            due("ahead(" + n + ")", glass.ahead(n), model.ahead(n));
        }
    }

    private void look(int what) {
        due("look(" + what + ")", glass.look(what), model.look(what));
    }

    private void of(int t, int what) {
        due("of(" + t + ", " + what + ")", glass.of(t, what), model.of(t, what));
    }

    private void book(int i, int what) {
        due("book(" + i + ", " + what + ")", glass.book(i, what), model.book(i, what));
    }

    private void think() {
        int what = about(0, 1);
        int t = about(0, 9);
        switch (below(14)) {
            case 0 -> {
                int n = about(1, 99);
                int w = about(0, 5);
                due("goes(" + n + ", " + w + ")", glass.goes(n, w), model.goes(n, w));
            }
            case 1 -> due("surest()", glass.surest(), model.surest());
            case 2 -> {
                int k = about(-1, 4);
                due("likely(" + k + ")", glass.likely(k), model.likely(k));
            }
            case 3 -> due("glued()", glass.glued(), model.glued());
            case 4 -> {
                int n = about(-1, 99);
                due("round(" + n + ")", glass.round(n), model.round(n));
            }
            case 5 -> due("safe(" + t + ", " + what + ")", glass.safe(t, what), model.safe(t, what));
            case 6 -> {
                int d = below(2) == 0 ? 1 + below(4) : about(1, 20);
                int k = about(0, 4);
                int n = about(1, 99);
                due("works(" + d + ", " + k + ", " + n + ", " + what + ")",
                        glass.works(d, k, n, what), model.works(d, k, n, what));
            }
            case 7 -> {
                int w = about(0, 2);
                int took = below(3) == 0 ? about(0, 4095) : someoneTook();
                due("leaks(" + took + ", " + w + ")", glass.leaks(took, w), model.leaks(took, w));
            }
            case 8 -> due("wins(" + what + ")", glass.wins(what), model.wins(what));
            case 9 -> due("weighs(" + t + ")", glass.weighs(t), model.weighs(t));
            case 10 -> {
                int w = below(3) == 0 ? about(0, 1) : about(10, 15);
                due("serves(" + w + ")", glass.serves(w), model.serves(w));
            }
            case 11 -> {
                if (model.look(0) < 9 || below(20) == 0) due("hats()", glass.hats(), model.hats());
            }
            case 12 -> due("mixes(" + what + ")", glass.mixes(what), model.mixes(what));
            default -> due("game(" + what + ")", glass.game(what), model.game(what));
        }
    }

    /** What some of the tellers told of have told together. */
    private int someoneTook() {
        int tellers = below(1024);
        int took = 0;
        for (int[] u : model.s.umbrellas) {
            if ((tellers >> u[0] & 1) == 1) took |= 1 << u[1];
        }
        return took;
    }

    private void lookAtAll() {
        for (int w = 0; w <= 19; w++) look(w);
        for (int t = 0; t < 10; t++) for (int w = 0; w < 10; w++) of(t, w);
        for (int i = 0; i <= 150; i++) for (int w = 0; w < 4; w++) book(i, w);
        for (int t = 0; t < 10; t++) for (int w = 0; w < 2; w++) {
            due("right(" + t + ", " + w + ")", glass.right(t, w), model.right(t, w));
        }
    }

    private void changeText() {
        int k = below(30) == 0 ? about(0, 2) : below(3);
        String t = k == 0 ? law() : k == 1 ? rounds() : agenda();
        if (below(5) == 0 && !t.isEmpty()) t = spoil(t);
        if (below(6) == 0) t = t + " ".repeat(below(3));
        if (t.length() > 400) t = t.substring(0, 400);
        feed(t);
        due("text(" + k + ")", glass.text(k), model.text(k));
        due("fault(0)", glass.fault(0), model.fault(0));
        due("fault(1)", glass.fault(1), model.fault(1));
    }

    private void feed(String t) {
        int start = model.tape.length();
        for (int from = 0; from < t.length(); from += 20) {
            int[] v = new int[5];
            for (int i = 0; i < 20; i++) {
                int c = from + i < t.length() ? t.charAt(from + i) : 32 + below(3);
                v[i / 4] = v[i / 4] << 8 | c;
            }
            due("feed of \"" + t.substring(from, Math.min(t.length(), from + 20)) + "\"",
                    glass.feed(v[0], v[1], v[2], v[3], v[4]), model.feed(v[0], v[1], v[2], v[3], v[4]));
        }
        int n = below(20) == 0 ? about(0, 400) : start + t.length();
        due("end(" + n + ")", glass.end(n), model.end(n));
    }

    private String spoil(String t) {
        int at = below(t.length());
        String odd = ";+-*/()<=>09 \nXy.\u00e9\u0000";
        char c = odd.charAt(below(odd.length()));
        int way = below(4);
        if (way == 0) return t.substring(0, at) + t.substring(at + 1);
        if (way == 1) return t.substring(0, at) + c + t.substring(at);
        if (way == 2) return t.substring(0, at) + c + t.substring(at + 1);
        return t.substring(0, at);
    }

    private String blank() {
        return below(8) == 0 ? "\n" : " ";
    }

    private String law() {
        StringBuilder b = new StringBuilder();
        int lines = below(12) == 0 ? 15 + below(3) : below(7);
        for (int i = 0; i < lines; i++) {
            b.append(pick("tell", "err", "blame")).append(blank());
            b.append(lines > 12 ? "" + below(99) : sum());
            if (lines < 12 && below(3) > 0) b.append(blank()).append("when").append(blank()).append(either(0));
            b.append(below(4) == 0 ? " ;" : ";");
        }
        return b.toString();
    }

    private String pick(String... of) {
        return of[below(of.length)];
    }

    private String unit() {
        if (below(2) == 0) return "" + (below(5) == 0 ? below(10000) : below(8));
        return pick("sort", "fear", "bribe", "glass", "kind", "stand", "day", "minister", "off");
    }

    private String product() {
        StringBuilder b = new StringBuilder(unit());
        for (int i = below(5) - 2; i > 0; i--) {
            if (below(2) == 0) b.append("*").append(unit());
            else b.append(" / ").append(below(12) == 0 ? below(2) : 1 + below(30));
        }
        return b.toString();
    }

    private String sum() {
        StringBuilder b = new StringBuilder(product());
        for (int i = below(5) - 2; i > 0; i--) b.append(pick("+", "-", " + ", " - ")).append(product());
        return b.toString();
    }

    private String either(int depth) {
        StringBuilder b = new StringBuilder(test(depth));
        for (int i = below(4) - 1; i > 0; i--) b.append(pick(" or ", " and ")).append(test(depth));
        return b.toString();
    }

    private String test(int depth) {
        int deep = below(40) == 0 ? 6 + below(4) : 0;
        if (deep > 0) {
            StringBuilder b = new StringBuilder();
            int open = 0;
            for (int i = 0; i < deep; i++) {
                if (below(2) == 0) b.append("not ");
                else {
                    b.append("(");
                    open++;
                }
            }
            return b.append("kind<3").append(")".repeat(open)).toString();
        }
        int way = depth < 3 ? below(6) : 5;
        if (way == 0) return "not " + test(depth + 1);
        if (way == 1) return "(" + either(depth + 1) + ")";
        return sum() + pick("<", "=", ">", " > ") + sum();
    }

    private String rounds() {
        StringBuilder b = new StringBuilder();
        int lines = below(10) == 0 ? 11 + below(3) : below(6);
        for (int i = 0; i < lines; i++) {
            int n = below(40) == 0 ? about(1, 30) : 1 + below(6);
            int by = below(40) == 0 ? about(0, 40) : below(30);
            b.append("for").append(blank()).append(Math.max(0, Math.min(n, 99999))).append(blank());
            b.append(pick("rise", "fall")).append(blank()).append(Math.max(0, Math.min(by, 99999))).append(";");
        }
        return b.toString();
    }

    private String agenda() {
        StringBuilder b = new StringBuilder();
        int lines = below(10) == 0 ? 15 + below(3) : below(8);
        int tellers = Math.max(1, model.look(0));
        for (int i = 0; i < lines; i++) {
            int day = below(3) == 0 ? below(100) : model.look(1) + below(20);
            int t = below(60) == 0 ? below(12) : below(tellers);
            b.append("on ").append(day).append(blank());
            int way = below(6);
            if (way == 0) b.append("tap");
            else if (way == 1) b.append("bribe ").append(t).append(' ').append(below(40) == 0 ? 100 : below(100));
            else if (way == 2) b.append("glue ").append(t).append(' ').append(below(40) == 0 ? 5 : below(5));
            else b.append(pick("name", "free", "recall")).append(' ').append(t);
            b.append(";");
        }
        return b.toString();
    }
}
