import java.util.ArrayList;
import java.util.Arrays;
import java.util.HashMap;
import java.util.LinkedHashMap;
import java.util.LinkedList;
import java.util.List;
import java.util.Map;
import java.util.Set;
import java.util.TreeMap;
import java.util.TreeSet;
import java.util.function.Predicate;
import java.util.function.ToIntFunction;

/**
 * The document once more, read for itself and written as slowly and plainly as can be: whole states
 * are copied, laws are trees, and what is best is found by trying everything.
 */
final class Model {
    static final int NONE = -1;

    static final class Teller {
        int sort, fear, bribe, glue = NONE, stand, gone, said = NONE;

        Teller copy() {
            Teller t = new Teller();
            t.sort = sort;
            t.fear = fear;
            t.bribe = bribe;
            t.glue = glue;
            t.stand = stand;
            t.gone = gone;
            t.said = said;
            return t;
        }
    }

    record LawLine(String word, ToIntFunction<Map<String, Integer>> sum, Predicate<Map<String, Integer>> when) { }

    record Act(int day, String what, int teller, int v) { }

    record Told(Map<Integer, Integer> said, int came) { }

    static final class State {
        int state, glass = 50, minister = NONE, gusts, falls = -10, floods, coin, day;
        List<Teller> tellers = new ArrayList<>();
        List<LawLine> law = new ArrayList<>();
        List<Integer> rounds = new ArrayList<>();
        int roundLines;
        List<Act> agenda = new ArrayList<>();
        List<int[]> book = new ArrayList<>();
        List<Told> record = new ArrayList<>();
        List<Integer> seen = new ArrayList<>();
        List<int[]> umbrellas = new ArrayList<>();
        List<int[]> posts = new ArrayList<>();
        int[] mix = new int[4];

        State copy() {
            State s = new State();
            s.courtFrom(this);
            s.law = new ArrayList<>(law);
            s.rounds = new ArrayList<>(rounds);
            s.roundLines = roundLines;
            s.agenda = new ArrayList<>(agenda);
            s.seen = new ArrayList<>(seen);
            s.umbrellas = new ArrayList<>(umbrellas);
            s.posts = new ArrayList<>(posts);
            s.mix = mix.clone();
            return s;
        }

        void courtFrom(State o) {
            state = o.state;
            glass = o.glass;
            minister = o.minister;
            gusts = o.gusts;
            falls = o.falls;
            floods = o.floods;
            coin = o.coin;
            day = o.day;
            tellers = new ArrayList<>();
            for (Teller t : o.tellers) {
                tellers.add(t.copy());
            }
            book = new ArrayList<>(o.book);
            record = new ArrayList<>(o.record);
        }
    }

    static final class Fault extends Exception {
        private static final long serialVersionUID = 1;
        final int kind;
        final int place;

        Fault(int kind, int place) {
            this.kind = kind;
            this.place = place;
        }
    }

    State s = new State();
    State kept;
    LinkedList<State> steps = new LinkedList<>();
    StringBuilder tape = new StringBuilder();
    int fault;
    int place = NONE;

    boolean there(int t) {
        return t >= 0 && t < s.tellers.size();
    }

    int state(int v) {
        int was = s.state;
        s.state = v;
        steps.clear();
        return was;
    }

    int teller(int sort, int fear) {
        if (sort < 0 || sort > 5 || fear < 0 || fear > 9 || s.tellers.size() == 10) return NONE;
        Teller t = new Teller();
        t.sort = sort;
        t.fear = fear;
        s.tellers.add(t);
        steps.clear();
        return s.tellers.size() - 1;
    }

    boolean set(int what, int who, int v) {
        int[] least = {0, 0, -999, 0, -999};
        int[] most = {99, 1000, 0, 9, 999};
        if (what < 0 || what > 4 || v < least[what] || v > most[what]) return false;
        if (what >= 3 && !there(who)) return false;
        if (what == 0) s.glass = v;
        if (what == 1) s.gusts = v;
        if (what == 2) s.falls = v;
        if (what == 3) s.tellers.get(who).fear = v;
        if (what == 4) s.tellers.get(who).stand = v;
        steps.clear();
        return true;
    }

    void keep() {
        steps.addLast(s.copy());
        if (steps.size() > 6) steps.removeFirst();
    }

    static void line(State s, boolean real, int what, int which, int much) {
        if (real && s.book.size() < 150) s.book.add(new int[] {s.day, what, which, much});
    }

    static boolean can(State s, String what, int t) {
        Teller x = s.tellers.get(t);
        if (what.equals("name")) return x.gone == 0;
        if (what.equals("free")) return x.glue != NONE;
        if (what.equals("recall")) return x.gone == 1;
        return true;
    }

    static void perform(State s, boolean real, String what, int t, int v) {
        Teller x = s.tellers.get(t);
        switch (what) {
            case "name" -> {
                s.minister = t;
                line(s, real, 4, t, 0);
            }
            case "bribe" -> {
                x.bribe = v;
                s.coin -= v;
                line(s, real, 5, t, v);
            }
            case "glue" -> {
                x.glue = v;
                line(s, real, 6, t, v);
            }
            case "free" -> {
                x.glue = NONE;
                line(s, real, 7, t, 0);
            }
            default -> {
                x.gone = 0;
                x.stand = 0;
                line(s, real, 8, t, 0);
            }
        }
    }

    boolean act(int what, int t, int v) {
        if (what < 0 || what > 4 || !there(t)) return false;
        if (what == 1 && (v < 0 || v > 99) || what == 2 && (v < 0 || v > 4)) return false;
        String word = List.of("name", "bribe", "glue", "free", "recall").get(what);
        if (!can(s, word, t)) return false;
        keep();
        perform(s, true, word, t, v);
        return true;
    }

    static int clamp(int v, int a, int b) {
        return v < a ? a : v > b ? b : v;
    }

    static int draw(State s, int m) {
        s.state = (int) (1664525L * s.state + 1013904223L);
        return (int) (((s.state & 0xffffffffL) / 256) % m);
    }

    static int law(State s, int t, String word, int said, int glass) {
        Teller x = s.tellers.get(t);
        int off = word.equals("blame") ? Math.abs(said - glass / 20) : 0;
        Map<String, Integer> facts = new HashMap<>();
        facts.put("sort", x.sort);
        facts.put("fear", x.fear);
        facts.put("bribe", x.bribe);
        facts.put("stand", x.stand);
        facts.put("glass", glass);
        facts.put("kind", glass / 20);
        facts.put("day", s.day);
        facts.put("minister", s.minister == t ? 1 : 0);
        facts.put("off", off);
        int v = word.equals("tell") ? glass / 20 : word.equals("err") ? 100 * x.fear : 3 * off;
        for (LawLine l : s.law) {
            if (l.word.equals(word) && l.when.test(facts)) {
                v = l.sum.applyAsInt(facts);
                break;
            }
        }
        return clamp(v, 0, word.equals("tell") ? 4 : word.equals("err") ? 1000 : 99);
    }

    static int move(State s, int day) {
        return s.rounds.isEmpty() ? 0 : s.rounds.get(day % s.rounds.size());
    }

    /** One day; who fell. */
    static int pass(State s, boolean real) {
        for (Act a : s.agenda) {
            if (a.day != s.day) continue;
            if (a.what.equals("tap")) {
                for (Teller x : s.tellers) if (x.gone == 0) s.coin += x.glue == NONE ? 1 : -1;
            } else if (can(s, a.what, a.teller)) {
                perform(s, real, a.what, a.teller, a.v);
            }
        }
        Map<Integer, Integer> said = new TreeMap<>();
        for (int t = 0; t < s.tellers.size(); t++) {
            Teller x = s.tellers.get(t);
            x.said = NONE;
            if (x.gone == 1) continue;
            if (x.glue != NONE) {
                x.said = x.glue;
            } else {
                int tell = law(s, t, "tell", 0, s.glass);
                int err = real ? law(s, t, "err", 0, s.glass) : 0;
                if (err > 0 && draw(s, 1000) < err) tell = clamp(tell + (draw(s, 2) == 0 ? -1 : 1), 0, 4);
                x.said = tell;
            }
            said.put(t, x.said);
        }
        int glass = s.glass + move(s, s.day);
        if (real && s.gusts > 0 && draw(s, 1000) < s.gusts) glass += draw(s, 21) - 10;
        s.glass = clamp(glass, 0, 99);
        int kind = s.glass / 20;
        line(s, real, 0, kind, s.glass);
        if (real && !said.isEmpty()) {
            s.record.add(new Told(said, kind));
            if (s.record.size() > 90) s.record.remove(0);
        }
        int first = NONE;
        int many = 0;
        for (int t : said.keySet()) {
            Teller x = s.tellers.get(t);
            if (x.said == kind) {
                x.stand = Math.min(999, x.stand + 1);
                many++;
                if (first == NONE) first = t;
            } else {
                x.stand = Math.max(-999, x.stand - law(s, t, "blame", x.said, s.glass));
            }
        }
        if (many > 0) line(s, real, 1, first, many);
        if (kind == 0 && s.minister != NONE && s.tellers.get(s.minister).said >= 2) {
            Teller x = s.tellers.get(s.minister);
            s.floods++;
            x.stand = Math.max(-999, x.stand - 20);
            line(s, real, 2, s.minister, x.stand);
        }
        int fell = NONE;
        if (s.minister != NONE && s.tellers.get(s.minister).stand < s.falls) {
            fell = s.minister;
            s.tellers.get(fell).gone = 1;
            s.minister = NONE;
            line(s, real, 3, fell, s.tellers.get(fell).stand);
        }
        if (s.minister == NONE) {
            int best = -1000;
            for (int t = 0; t < s.tellers.size(); t++) {
                if (s.tellers.get(t).gone == 0 && s.tellers.get(t).stand > best) {
                    best = s.tellers.get(t).stand;
                    s.minister = t;
                }
            }
            if (s.minister != NONE) line(s, real, 4, s.minister, 0);
        }
        s.day++;
        return fell;
    }

    int days(int n) {
        if (n < 1 || n > 60 || s.day + n > 9999) return NONE;
        int fell = 0;
        for (int i = 0; i < n; i++) {
            keep();
            if (pass(s, true) != NONE) fell++;
        }
        return fell;
    }

    int feed(int... five) {
        if (tape.length() + 20 > 400) return NONE;
        for (int v : five) for (int k = 3; k >= 0; k--) tape.append((char) (v >> 8 * k & 255));
        return tape.length();
    }

    boolean end(int n) {
        if (n < 0 || n > tape.length()) return false;
        tape.setLength(n);
        return true;
    }

    int text(int k) {
        String t = tape.toString();
        tape.setLength(0);
        fault = 0;
        place = NONE;
        if (k < 0 || k > 2) return NONE;
        try {
            return k == 0 ? readLaw(t) : k == 1 ? readRounds(t) : readAgenda(t);
        } catch (Fault f) {
            fault = f.kind;
            place = f.place;
            return NONE;
        }
    }

    /** Reads a text sign by sign. */
    static final class Reading {
        final String t;
        final Set<String> words;
        int at;

        Reading(String t, String words) {
            this.t = t;
            this.words = new TreeSet<>(Arrays.asList(words.split(" ")));
            skip();
        }

        void skip() {
            while (at < t.length() && (t.charAt(at) == 32 || t.charAt(at) == 10)) at++;
        }

        static boolean letter(char c) {
            return c < 128 && Character.isLetter(c);
        }

        static boolean digit(char c) {
            return c < 128 && Character.isDigit(c);
        }

        /** The token that stands next: "" at the end, "?" for one that can't be. */
        String peek() {
            if (at >= t.length()) return "";
            char c = t.charAt(at);
            int to = at;
            if (letter(c)) {
                while (to < t.length() && letter(t.charAt(to))) to++;
                String w = t.substring(at, to);
                return words.contains(w) ? w : "?";
            }
            if (digit(c)) {
                while (to < t.length() && digit(t.charAt(to))) to++;
                return to - at > 4 ? "?" : t.substring(at, to);
            }
            return ";+-*/()<=>".indexOf(c) >= 0 ? "" + c : "?";
        }

        boolean isNumber() {
            String p = peek();
            return !p.isEmpty() && digit(p.charAt(0));
        }

        String take() {
            String p = peek();
            at += p.length();
            skip();
            return p;
        }

        String takeOneOf(String... which) throws Fault {
            if (!Arrays.asList(which).contains(peek())) throw new Fault(1, at);
            return take();
        }

        int takeNumber(int least, int most) throws Fault {
            if (!isNumber()) throw new Fault(1, at);
            int v = Integer.parseInt(peek());
            if (v < least || v > most) throw new Fault(2, at);
            take();
            return v;
        }

        boolean ended() {
            return at >= t.length();
        }
    }

    int readLaw(String t) throws Fault {
        Reading r = new Reading(t, "tell err blame when or and not sort fear bribe glass kind stand day minister off");
        List<LawLine> lines = new ArrayList<>();
        while (!r.ended()) {
            int from = r.at;
            String word = r.takeOneOf("tell", "err", "blame");
            if (lines.size() == 16) throw new Fault(3, from);
            ToIntFunction<Map<String, Integer>> sum = sum(r);
            Predicate<Map<String, Integer>> when = f -> true;
            if (r.peek().equals("when")) {
                r.take();
                when = either(r, 0);
            }
            r.takeOneOf(";");
            lines.add(new LawLine(word, sum, when));
        }
        s.law = lines;
        return lines.size();
    }

    static Predicate<Map<String, Integer>> either(Reading r, int open) throws Fault {
        Predicate<Map<String, Integer>> p = both(r, open);
        while (r.peek().equals("or")) {
            r.take();
            p = p.or(both(r, open));
        }
        return p;
    }

    static Predicate<Map<String, Integer>> both(Reading r, int open) throws Fault {
        Predicate<Map<String, Integer>> p = test(r, open);
        while (r.peek().equals("and")) {
            r.take();
            p = p.and(test(r, open));
        }
        return p;
    }

    static Predicate<Map<String, Integer>> test(Reading r, int open) throws Fault {
        if (r.peek().equals("not") || r.peek().equals("(")) {
            if (open == 8) throw new Fault(3, r.at);
            if (r.take().equals("not")) return test(r, open + 1).negate();
            Predicate<Map<String, Integer>> p = either(r, open + 1);
            r.takeOneOf(")");
            return p;
        }
        ToIntFunction<Map<String, Integer>> a = sum(r);
        String sign = r.takeOneOf("<", "=", ">");
        ToIntFunction<Map<String, Integer>> b = sum(r);
        return f -> {
            int order = Integer.compare(a.applyAsInt(f), b.applyAsInt(f));
            return order == "<=>".indexOf(sign) - 1;
        };
    }

    static ToIntFunction<Map<String, Integer>> sum(Reading r) throws Fault {
        ToIntFunction<Map<String, Integer>> v = product(r);
        while (r.peek().equals("+") || r.peek().equals("-")) {
            boolean plus = r.take().equals("+");
            ToIntFunction<Map<String, Integer>> a = v;
            ToIntFunction<Map<String, Integer>> b = product(r);
            v = f -> plus ? a.applyAsInt(f) + b.applyAsInt(f) : a.applyAsInt(f) - b.applyAsInt(f);
        }
        return v;
    }

    static ToIntFunction<Map<String, Integer>> product(Reading r) throws Fault {
        ToIntFunction<Map<String, Integer>> v = unit(r);
        while (r.peek().equals("*") || r.peek().equals("/")) {
            ToIntFunction<Map<String, Integer>> a = v;
            if (r.take().equals("*")) {
                ToIntFunction<Map<String, Integer>> b = unit(r);
                v = f -> a.applyAsInt(f) * b.applyAsInt(f);
            } else {
                int by = r.takeNumber(1, 9999);
                v = f -> a.applyAsInt(f) / by;
            }
        }
        return v;
    }

    static ToIntFunction<Map<String, Integer>> unit(Reading r) throws Fault {
        if (r.isNumber()) {
            int v = r.takeNumber(0, 9999);
            return f -> v;
        }
        String word = r.takeOneOf("sort", "fear", "bribe", "glass", "kind", "stand", "day", "minister", "off");
        return f -> f.get(word);
    }

    int readRounds(String t) throws Fault {
        Reading r = new Reading(t, "for rise fall");
        List<Integer> all = new ArrayList<>();
        int lines = 0;
        while (!r.ended()) {
            int from = r.at;
            r.takeOneOf("for");
            if (lines == 12) throw new Fault(3, from);
            int n = r.takeNumber(1, 30);
            int sign = r.takeOneOf("rise", "fall").equals("rise") ? 1 : -1;
            int by = sign * r.takeNumber(0, 40);
            r.takeOneOf(";");
            for (int i = 0; i < n; i++) all.add(by);
            lines++;
        }
        s.rounds = all;
        s.roundLines = lines;
        steps.clear();
        return lines;
    }

    int readAgenda(String t) throws Fault {
        Reading r = new Reading(t, "on name bribe glue free recall tap");
        List<Act> acts = new ArrayList<>();
        while (!r.ended()) {
            int from = r.at;
            r.takeOneOf("on");
            if (acts.size() == 16) throw new Fault(3, from);
            int day = r.takeNumber(0, 999);
            String what = r.takeOneOf("name", "bribe", "glue", "free", "recall", "tap");
            int teller = what.equals("tap") ? 0 : r.takeNumber(0, s.tellers.size() - 1);
            int v = what.equals("bribe") ? r.takeNumber(0, 99) : what.equals("glue") ? r.takeNumber(0, 4) : 0;
            r.takeOneOf(";");
            acts.add(new Act(day, what, teller, v));
        }
        s.agenda = acts;
        steps.clear();
        return acts.size();
    }

    int fault(int what) {
        return what == 0 ? fault : what == 1 ? place : NONE;
    }

    int of(int t, int what) {
        if (!there(t)) return -10000;
        Teller x = s.tellers.get(t);
        return switch (what) {
            case 0 -> x.sort;
            case 1 -> x.fear;
            case 2 -> x.bribe;
            case 3 -> x.glue;
            case 4 -> x.stand;
            case 5 -> x.gone;
            case 6 -> x.said;
            case 7 -> law(s, t, "tell", 0, s.glass);
            case 8 -> law(s, t, "err", 0, s.glass);
            case 9 -> x.said == NONE ? 0 : law(s, t, "blame", x.said, s.glass);
            default -> -10000;
        };
    }

    int moves(int day) {
        return day < 0 || day > 9999 ? -100 : move(s, day);
    }

    int book(int i, int what) {
        return i < 0 || i >= s.book.size() || what < 0 || what > 3 ? -10000 : s.book.get(i)[what];
    }

    int goes(int n, int what) {
        if (n < 1 || n > 99 || what < 0 || what > 5) return -100000;
        State c = s.copy();
        int who = NONE;
        int when = NONE;
        for (int i = 0; i < n; i++) {
            int day = c.day;
            int fell = pass(c, false);
            if (who == NONE && fell != NONE) {
                who = fell;
                when = day;
            }
        }
        return new int[] {c.minister, c.floods, c.glass, c.coin, who, when}[what];
    }

    int ahead(int n) {
        return n < 1 || n > 99 ? NONE : goes(n, 2) / 20;
    }

    int right(int t, int what) {
        if (!there(t) || what < 0 || what > 1) return NONE;
        int n = 0;
        for (Told d : s.record) {
            Integer said = d.said.get(t);
            if (said != null && (what == 1 || said == d.came)) n++;
        }
        return n;
    }

    int surest() {
        int best = NONE;
        for (int t = 0; t < s.tellers.size(); t++) {
            if (s.tellers.get(t).gone == 1 || right(t, 1) == 0) continue;
            if (best == NONE || right(t, 0) * right(best, 1) > right(best, 0) * right(t, 1)) best = t;
        }
        return best;
    }

    int likely(int k) {
        if (k < -1 || k > 4) return NONE;
        long[] q = new long[5];
        Arrays.fill(q, 200000);
        boolean any = false;
        for (int t = 0; t < s.tellers.size(); t++) {
            Teller x = s.tellers.get(t);
            if (x.gone == 1 || x.said == NONE) continue;
            any = true;
            for (int c = 0; c < 5; c++) {
                int a = 1;
                int b = 5;
                for (Told d : s.record) {
                    if (!d.said.containsKey(t) || d.came != c) continue;
                    b++;
                    if (d.said.get(t) == x.said) a++;
                }
                q[c] = Math.floorDiv(q[c] * a, b);
            }
        }
        if (!any) return NONE;
        long all = Arrays.stream(q).sum();
        int best = 0;
        for (int c = 0; c < 5; c++) if (q[c] > q[best]) best = c;
        return k == NONE ? best : all == 0 ? 0 : (int) (q[k] * 1000000 / all);
    }

    int glued() {
        int set = 0;
        for (int t = 0; t < s.tellers.size(); t++) {
            Set<Integer> told = new TreeSet<>();
            Set<Integer> came = new TreeSet<>();
            for (Told d : s.record) {
                if (d.said.containsKey(t)) {
                    told.add(d.said.get(t));
                    came.add(d.came);
                }
            }
            if (right(t, 1) >= 3 && told.size() == 1 && came.size() > 1) set += 1 << t;
        }
        return set;
    }

    int seen(int g) {
        if (g == NONE) {
            s.seen.clear();
            return 0;
        }
        if (g < 0 || g > 99 || s.seen.size() == 12) return NONE;
        s.seen.add(g);
        return s.seen.size();
    }

    int round(int n) {
        if (s.seen.isEmpty() || n < -1 || n > 99) return NONE;
        List<Integer> more = new ArrayList<>(s.seen);
        int p = 1;
        while (!s.seen.subList(p, s.seen.size()).equals(s.seen.subList(0, s.seen.size() - p))) p++;
        if (n == NONE) return p;
        for (int i = 0; i < n; i++) more.add(more.get(more.size() - p));
        return more.get(more.size() - 1);
    }

    int safe(int t, int what) {
        if (!there(t) || what < 0 || what > 1) return -10000;
        int best = NONE;
        int least = Integer.MAX_VALUE;
        for (int k = 0; k < 5; k++) {
            int sum = 0;
            for (int m = -10; m <= 10; m++) {
                int g = clamp(s.glass + move(s, s.day) + m, 0, 99);
                sum += g / 20 == k ? -1 : law(s, t, "blame", k, g);
            }
            if (sum < least) {
                best = k;
                least = sum;
            }
        }
        return what == 0 ? best : least;
    }

    int works(int d, int k, int n, int what) {
        if (d < 1 || d > 20 || k < 0 || k > 4 || n < 1 || n > 99 || what < 0 || what > 1) return NONE;
        StringBuilder fit = new StringBuilder();
        for (int i = 1; i <= n; i++) fit.append(ahead(i) >= k ? 'y' : 'n');
        if (what == 1) return fit.toString().replace("n", "").length();
        int at = fit.indexOf("y".repeat(d));
        return at < 0 ? NONE : at + 1;
    }

    int umbrella(int a, int b) {
        if (a == NONE) {
            s.umbrellas.clear();
            return 0;
        }
        if (!there(a) || b < 0 || b > 11 || s.umbrellas.size() == 20) return NONE;
        s.umbrellas.add(new int[] {a, b});
        return s.umbrellas.size();
    }

    int leaks(int took, int what) {
        Map<Integer, Set<Integer>> tells = new TreeMap<>();
        for (int[] u : s.umbrellas) tells.computeIfAbsent(u[0], x -> new TreeSet<>()).add(u[1]);
        if (what == 2) {
            if (tells.size() < 2) return NONE;
            int best = 0;
            int least = 99;
            for (int b = 0; b < 12; b++) {
                int yes = 0;
                for (Set<Integer> own : tells.values()) if (own.contains(b)) yes++;
                int greater = Math.max(yes, tells.size() - yes);
                if (greater < least) {
                    least = greater;
                    best = b;
                }
            }
            return best;
        }
        if (what < 0 || what > 2 || took < 0 || took > 4095) return NONE;
        int best = NONE;
        for (int set = 0; set < 1 << s.tellers.size(); set++) {
            int union = 0;
            for (int t = 0; t < 10; t++) {
                if ((set >> t & 1) == 1) for (int b : tells.getOrDefault(t, Set.of())) union |= 1 << b;
            }
            if (union == took && (best == NONE || Integer.bitCount(set) < Integer.bitCount(best))) best = set;
        }
        return best == NONE ? NONE : what == 1 ? best : Integer.bitCount(best);
    }

    int votes(int set) {
        int v = 0;
        for (int t = 0; t < s.tellers.size(); t++) {
            if ((set >> t & 1) == 1 && s.tellers.get(t).gone == 0) v += 10 - s.tellers.get(t).fear;
        }
        return v;
    }

    boolean allServe(int set) {
        for (int t = 0; t < 10; t++) {
            if ((set >> t & 1) == 1 && (!there(t) || s.tellers.get(t).gone == 1)) return false;
        }
        return true;
    }

    int wins(int what) {
        if (what < 0 || what > 1) return NONE;
        for (int n = 1; n <= 10; n++) {
            for (int set = 0; set < 1024; set++) {
                if (Integer.bitCount(set) == n && allServe(set) && votes(set) * 2 > votes(1023)) {
                    return what == 0 ? n : set;
                }
            }
        }
        return NONE;
    }

    int weighs(int t) {
        if (!there(t)) return NONE;
        if (s.tellers.get(t).gone == 1) return 0;
        int n = 0;
        for (int set = 0; set < 1024; set++) {
            if ((set >> t & 1) == 1 || !allServe(set)) continue;
            if (votes(set) * 2 <= votes(1023) && votes(set | 1 << t) * 2 > votes(1023)) n++;
        }
        return n;
    }

    int post(int sort, int worth) {
        if (sort == NONE) {
            s.posts.clear();
            return 0;
        }
        if (sort < 0 || sort > 5 || worth < 1 || worth > 99 || s.posts.size() == 6) return NONE;
        s.posts.add(new int[] {sort, worth});
        return s.posts.size();
    }

    int bestSum;
    int[] bestWay;

    /** Tries every way in the order that the document asks for; the first of the greatest stays. */
    void serve(int i, int taken, int sum, int[] way) {
        if (i == s.posts.size()) {
            if (sum > bestSum) {
                bestSum = sum;
                bestWay = way.clone();
            }
            return;
        }
        for (int t = 0; t < s.tellers.size(); t++) {
            Teller x = s.tellers.get(t);
            if (x.gone == 1 || (taken >> t & 1) == 1) continue;
            way[i] = t;
            int[] p = s.posts.get(i);
            serve(i + 1, taken | 1 << t, sum + (p[0] == x.sort ? 2 * p[1] : p[1]), way);
        }
        way[i] = NONE;
        serve(i + 1, taken, sum, way);
    }

    int serves(int what) {
        bestSum = NONE;
        serve(0, 0, 0, new int[6]);
        if (what == 0) return bestSum;
        return what >= 10 && what < 10 + s.posts.size() ? bestWay[what - 10] : NONE;
    }

    int hats() {
        List<Teller> in = new ArrayList<>();
        for (Teller t : s.tellers) if (t.gone == 0) in.add(t);
        return hats(in, 0, 0);
    }

    static int hats(List<Teller> in, int i, int taken) {
        if (i == in.size()) return 1;
        int n = 0;
        for (int h = 0; h < in.size(); h++) {
            if ((taken >> h & 1) == 0 && in.get(h).sort != in.get(i).sort) n += hats(in, i + 1, taken | 1 << h);
        }
        return n;
    }

    boolean mix(int k, int v) {
        if (k < 0 || k > 3 || v < 0 || v > 99) return false;
        s.mix[k] = v;
        return true;
    }

    int mixes(int what) {
        int[] sums = new int[1001];
        for (int p = 0; p <= 1000; p++) {
            int[] told = new int[2];
            for (int y = 0; y < 2; y++) told[y] = s.mix[2 + y] * p + s.mix[y] * (1000 - p);
            sums[p] = Math.min(told[0], told[1]);
        }
        int most = Arrays.stream(sums).max().getAsInt();
        int p = 0;
        while (sums[p] != most) p++;
        return what == 0 ? p : what == 1 ? most : NONE;
    }

    static final Map<String, Boolean> WINS = new HashMap<>();

    static boolean firstWins(int[] heaps) {
        int[] sorted = heaps.clone();
        Arrays.sort(sorted);
        String key = Arrays.toString(sorted);
        Boolean known = WINS.get(key);
        if (known != null) return known;
        boolean wins = false;
        for (int i = 0; i < sorted.length && !wins; i++) {
            for (int tap = 1; tap <= 2 && tap <= sorted[i] && !wins; tap++) {
                int[] left = sorted.clone();
                left[i] -= tap;
                wins = !firstWins(left);
            }
        }
        WINS.put(key, wins);
        return wins;
    }

    int game(int what) {
        Map<Integer, Integer> fears = new LinkedHashMap<>();
        for (int t = 0; t < s.tellers.size(); t++) if (s.tellers.get(t).gone == 0) fears.put(t, s.tellers.get(t).fear);
        for (int t : fears.keySet()) {
            for (int tap = 1; tap <= 2 && tap <= fears.get(t); tap++) {
                Map<Integer, Integer> left = new LinkedHashMap<>(fears);
                left.put(t, fears.get(t) - tap);
                if (!firstWins(left.values().stream().mapToInt(Integer::intValue).toArray())) {
                    return what == 0 ? t : what == 1 ? tap : NONE;
                }
            }
        }
        return NONE;
    }

    boolean undo() {
        if (steps.isEmpty()) return false;
        s.courtFrom(steps.removeLast());
        return true;
    }

    boolean image(boolean taken) {
        if (taken) {
            kept = s.copy();
            return true;
        }
        if (kept == null) return false;
        s = kept.copy();
        steps.clear();
        return true;
    }

    int look(int what) {
        int[] all = {s.tellers.size(), s.day, s.glass, s.glass / 20, s.minister, s.floods, s.coin, s.gusts, s.falls,
            s.book.size(), s.state, s.law.size(), s.roundLines, s.agenda.size(), s.seen.size(), s.umbrellas.size(),
            s.posts.size(), steps.size(), s.record.size()};
        return what < 0 || what >= all.length ? -100000 : all[what];
    }
}
