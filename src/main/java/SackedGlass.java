/** A court in which the weather is blamed on whoever told it. */
public final class SackedGlass {
    public static final int NONE = -1;

    private static final int KINDS = 5;
    private static final int KIND_WIDTH = 20;
    private static final int TOP_GLASS = 99;
    private static final int MOST_TELLERS = 10;
    private static final int MOST_STAND = 999;
    private static final int MOST_GUSTS = 1000;
    private static final int MOST_BRIBE = 99;
    private static final int MOST_FEAR = 9;
    private static final int MOST_SORT = 5;
    private static final int MOST_DAY = 9999;
    private static final int MOST_DAYS_AT_ONCE = 60;
    private static final int MOST_AHEAD = 99;
    private static final int MOST_WORKS = 20;
    private static final int NO_SUCH_MOVE = NONE - 99;
    private static final int NO_SUCH_ROW = NONE - 9999;
    private static final int NO_SUCH_LOOK = NONE - 99999;

    private final Tape tape = new Tape();
    private final World now = new World();
    private final Court thought = new Court(false);
    private final Steps steps = new Steps();
    private final Law nextLaw = new Law();
    private final Rounds nextRounds = new Rounds();
    private final Agenda nextAgenda = new Agenda();
    // Large, and made only when they are asked for first, since many objects share one room.
    private World kept;
    private Council council;

    public SackedGlass() {
    }

    public int state(int v) {
        int was = now.court.state;
        now.court.state = v;
        steps.forget();
        return was;
    }

    public int teller(int sort, int fear) {
        if (!within(sort, 0, MOST_SORT) || !within(fear, 0, MOST_FEAR)) {
            return NONE;
        }
        int number = now.court.admit(sort, fear);
        if (number != NONE) {
            steps.forget();
        }
        return number;
    }

    public boolean set(int what, int who, int v) {
        Court court = now.court;
        if (what == 0 && within(v, 0, TOP_GLASS)) {
            court.glass = v;
        } else if (what == 1 && within(v, 0, MOST_GUSTS)) {
            court.gusts = v;
        } else if (what == 2 && within(v, -MOST_STAND, 0)) {
            court.falls = v;
        } else if (what == 3 && court.has(who) && within(v, 0, MOST_FEAR)) {
            court.put(who, Court.FEAR, v);
        } else if (what == 4 && court.has(who) && within(v, -MOST_STAND, MOST_STAND)) {
            court.put(who, Court.STAND, v);
        } else {
            return false;
        }
        steps.forget();
        return true;
    }

    public boolean act(int what, int teller, int v) {
        if (!now.court.allows(what, teller, v)) {
            return false;
        }
        steps.keep(now.court);
        now.carryOut(now.court, what, teller, v);
        return true;
    }

    public int days(int n) {
        if (!within(n, 1, MOST_DAYS_AT_ONCE) || now.court.day + n > MOST_DAY) {
            return NONE;
        }
        int fell = 0;
        for (int i = 0; i < n; i++) {
            steps.keep(now.court);
            if (now.pass(now.court) != NONE) {
                fell++;
            }
        }
        return fell;
    }

    public int feed(int a, int b, int c, int d, int e) {
        if (!tape.hasRoom()) {
            return NONE;
        }
        tape.add(a);
        tape.add(b);
        tape.add(c);
        tape.add(d);
        tape.add(e);
        return tape.length;
    }

    public boolean end(int n) {
        return tape.cut(n);
    }

    public int text(int k) {
        int lines = NONE;
        tape.clearFault();
        if (k == 0 && nextLaw.read(tape)) {
            now.law.take(nextLaw);
            lines = now.law.count;
        } else if (k == 1 && nextRounds.read(tape)) {
            now.rounds.take(nextRounds);
            lines = now.rounds.count;
            steps.forget();
        } else if (k == 2 && nextAgenda.read(tape, now.court.count)) {
            now.agenda.take(nextAgenda);
            lines = now.agenda.count;
            steps.forget();
        }
        tape.cut(0);
        return lines;
    }

    public int fault(int what) {
        if (what == 0) {
            return tape.fault;
        }
        return what == 1 ? tape.faultPlace : NONE;
    }

    public int of(int teller, int what) {
        Court court = now.court;
        if (!court.has(teller) || !within(what, 0, 9)) {
            return NO_SUCH_ROW;
        }
        if (what == 7) {
            return now.tellBy(court, teller);
        }
        if (what == 8) {
            return now.errBy(court, teller);
        }
        if (what == 9) {
            int said = court.get(teller, Court.SAID);
            return said == NONE ? 0 : now.blameBy(court, teller, said);
        }
        return court.get(teller, what);
    }

    public int moves(int day) {
        return within(day, 0, MOST_DAY) ? now.rounds.moveOn(day) : NO_SUCH_MOVE;
    }

    public int book(int i, int what) {
        if (!within(i, 0, now.court.lines - 1) || !within(what, 0, Book.WIDTH - 1)) {
            return NO_SUCH_ROW;
        }
        return now.book.read(i, what);
    }

    public int goes(int n, int what) {
        if (!within(n, 1, MOST_AHEAD) || !within(what, 0, 5)) {
            return NO_SUCH_LOOK;
        }
        int first = NONE;
        int firstDay = NONE;
        thought.take(now.court);
        for (int i = 0; i < n; i++) {
            int day = thought.day;
            int fallen = now.pass(thought);
            if (fallen != NONE && first == NONE) {
                first = fallen;
                firstDay = day;
            }
        }
        switch (what) {
            case 0: return thought.minister;
            case 1: return thought.floods;
            case 2: return thought.glass;
            case 3: return thought.coin;
            case 4: return first;
            default: return firstDay;
        }
    }

    public int ahead(int n) {
        if (!within(n, 1, MOST_AHEAD)) {
            return NONE;
        }
        int glass = now.court.glass;
        for (int i = 0; i < n; i++) {
            glass = now.glassBehind(glass, now.court.day + i);
        }
        return glass / KIND_WIDTH;
    }

    public int right(int teller, int what) {
        if (!now.court.has(teller) || !within(what, 0, 1)) {
            return NONE;
        }
        if (what == 0) {
            return now.memory.rightDays(now.court, teller);
        }
        return now.memory.toldDays(now.court, teller);
    }

    public int surest() {
        int best = NONE;
        int bestRight = 0;
        int bestDays = 1;
        for (int t = 0; t < now.court.count; t++) {
            int told = now.memory.toldDays(now.court, t);
            if (told == 0 || !now.court.serving(t)) {
                continue;
            }
            int rightly = now.memory.rightDays(now.court, t);
            // Shares are compared crosswise, so that no quotient is rounded.
            if (best == NONE || rightly * bestDays > bestRight * told) {
                best = t;
                bestRight = rightly;
                bestDays = told;
            }
        }
        return best;
    }

    public int likely(int k) {
        if (!within(k, NONE, KINDS - 1) || !now.weighKinds()) {
            return NONE;
        }
        return k == NONE ? now.heaviestKind() : now.shareOfMillion(k);
    }

    public int glued() {
        int found = 0;
        for (int t = 0; t < now.court.count; t++) {
            if (now.memory.looksGlued(now.court, t)) {
                found |= 1 << t;
            }
        }
        return found;
    }

    public int seen(int glass) {
        return now.notes.addSeen(glass);
    }

    public int round(int n) {
        if (now.notes.seenCount == 0 || !within(n, NONE, MOST_AHEAD)) {
            return NONE;
        }
        return n == NONE ? now.notes.period() : now.notes.seenBehind(n);
    }

    public int safe(int teller, int what) {
        if (!now.court.has(teller) || !within(what, 0, 1)) {
            return NO_SUCH_ROW;
        }
        int best = 0;
        int least = 0;
        for (int kind = 0; kind < KINDS; kind++) {
            thought.take(now.court);
            int blame = now.blameTomorrow(thought, teller, kind);
            if (kind == 0 || blame < least) {
                best = kind;
                least = blame;
            }
        }
        return what == 0 ? best : least;
    }

    public int works(int d, int k, int n, int what) {
        if (!within(d, 1, MOST_WORKS) || !within(k, 0, KINDS - 1)
                || !within(n, 1, MOST_AHEAD) || !within(what, 0, 1)) {
            return NONE;
        }
        int glass = now.court.glass;
        int together = 0;
        int fit = 0;
        int first = NONE;
        for (int i = 1; i <= n; i++) {
            glass = now.glassBehind(glass, now.court.day + i - 1);
            if (glass / KIND_WIDTH < k) {
                together = 0;
                continue;
            }
            fit++;
            together++;
            if (together == d && first == NONE) {
                first = i - d + 1;
            }
        }
        return what == 0 ? first : fit;
    }

    public int umbrella(int a, int b) {
        return now.notes.addUmbrella(a, b, now.court.count);
    }

    public int leaks(int took, int what) {
        if (what == 2) {
            return now.notes.bestToAsk();
        }
        if (!within(what, 0, 1) || !within(took, 0, Notes.ALL_COURTIERS)) {
            return NONE;
        }
        int leaking = theCouncil().leaking(now.notes, took);
        return leaking == NONE || what == 1 ? leaking : Integer.bitCount(leaking);
    }

    public int wins(int what) {
        if (!within(what, 0, 1)) {
            return NONE;
        }
        int winners = theCouncil().winners(now.court);
        return winners == NONE || what == 1 ? winners : Integer.bitCount(winners);
    }

    public int weighs(int teller) {
        return now.court.has(teller) ? theCouncil().weightOf(now.court, teller) : NONE;
    }

    public int post(int sort, int worth) {
        return now.notes.addPost(sort, worth);
    }

    public int serves(int what) {
        if (what == 0) {
            return theCouncil().greatestService(now.court, now.notes);
        }
        if (!within(what, 10, 10 + now.notes.postCount - 1)) {
            return NONE;
        }
        return theCouncil().holderOf(now.court, now.notes, what - 10);
    }

    public int hats() {
        return theCouncil().wrongHats(now.court);
    }

    public boolean mix(int k, int v) {
        return now.notes.setMix(k, v);
    }

    public int mixes(int what) {
        if (!within(what, 0, 1)) {
            return NONE;
        }
        int p = now.notes.bestMix();
        return what == 0 ? p : now.notes.mixWorth(p);
    }

    public int game(int what) {
        if (!within(what, 0, 1)) {
            return NONE;
        }
        return Council.goodTap(now.court, what == 1);
    }

    public boolean undo() {
        return steps.back(now.court);
    }

    public boolean image(boolean taken) {
        if (taken) {
            if (kept == null) {
                kept = new World();
            }
            kept.take(now);
        } else if (kept != null) {
            now.take(kept);
            steps.forget();
        }
        return kept != null;
    }

    public int look(int what) {
        Court court = now.court;
        switch (what) {
            case 0: return court.count;
            case 1: return court.day;
            case 2: return court.glass;
            case 3: return court.kind();
            case 4: return court.minister;
            case 5: return court.floods;
            case 6: return court.coin;
            case 7: return court.gusts;
            case 8: return court.falls;
            case 9: return court.lines;
            case 10: return court.state;
            case 11: return now.law.count;
            case 12: return now.rounds.count;
            case 13: return now.agenda.count;
            case 14: return now.notes.seenCount;
            case 15: return now.notes.umbrellaCount;
            case 16: return now.notes.postCount;
            case 17: return steps.count;
            case 18: return Memory.kept(court);
            default: return NO_SUCH_LOOK;
        }
    }

    private Council theCouncil() {
        if (council == null) {
            council = new Council();
        }
        return council;
    }

    private static boolean within(int v, int least, int most) {
        return v >= least && v <= most;
    }

    private static int hold(int v, int least, int most) {
        return Math.max(least, Math.min(most, v));
    }

    /** The bytes that were fed, the tokens that they make and the first fault in them. */
    private static final class Tape {
        static final int MOST = 400;
        static final int FED = 20;
        static final int BAD = -1;
        static final int END = 0;
        static final int NUMBER = 1;
        // Words are numbered above all signs, which stand for themselves.
        static final int WORD = 128;
        static final int MOST_DIGITS = 4;
        static final int WRONG = 1;
        static final int BEYOND = 2;
        static final int TOO_MANY = 3;
        private static final String SIGNS = ";+-*/()<=>";

        private final int[] bytes = new int[MOST];
        private final int[] tokens = new int[MOST + 1];
        private final int[] numbers = new int[MOST + 1];
        private final int[] places = new int[MOST + 1];
        private int at;
        int length;
        int fault;
        int faultPlace = NONE;

        boolean hasRoom() {
            return length + FED <= MOST;
        }

        void add(int four) {
            for (int shift = 24; shift >= 0 && length < MOST; shift -= 8) {
                bytes[length] = (four >>> shift) & 255;
                length++;
            }
        }

        boolean cut(int n) {
            if (n < 0 || n > length) {
                return false;
            }
            length = n;
            return true;
        }

        void clearFault() {
            fault = 0;
            faultPlace = NONE;
        }

        /** Makes the tokens of all that was fed; the words are told one by one, a blank behind each. */
        void split(String words) {
            int count = 0;
            int from = 0;
            at = 0;
            for (int i = 0; i < MOST && from < length; i++) {
                int to = runFrom(from);
                if (!isBlank(bytes[from])) {
                    places[count] = from;
                    tokens[count] = tokenOf(from, to, words);
                    numbers[count] = tokens[count] == NUMBER ? numberOf(from, to) : 0;
                    count++;
                }
                from = to;
            }
            tokens[count] = END;
            places[count] = length;
        }

        /** Where letters or digits that stand together end; any other sign stands alone. */
        private int runFrom(int from) {
            boolean letters = isLetter(bytes[from]);
            boolean digits = isDigit(bytes[from]);
            for (int to = from + 1; to < length; to++) {
                if (!(letters && isLetter(bytes[to]) || digits && isDigit(bytes[to]))) {
                    return to;
                }
            }
            return length;
        }

        private int tokenOf(int from, int to, String words) {
            int first = bytes[from];
            if (isLetter(first)) {
                return wordOf(from, to, words);
            }
            if (isDigit(first)) {
                return to - from <= MOST_DIGITS ? NUMBER : BAD;
            }
            return SIGNS.indexOf((char) first) >= 0 ? first : BAD;
        }

        private int wordOf(int from, int to, String words) {
            int index = 0;
            int start = 0;
            for (int i = 0; i < words.length(); i++) {
                if (words.charAt(i) == ' ') {
                    if (i - start == to - from && isSame(from, to, words, start)) {
                        return WORD + index;
                    }
                    index++;
                    start = i + 1;
                }
            }
            return BAD;
        }

        private boolean isSame(int from, int to, String words, int start) {
            for (int i = from; i < to; i++) {
                if (bytes[i] != words.charAt(start + i - from)) {
                    return false;
                }
            }
            return true;
        }

        private int numberOf(int from, int to) {
            int value = 0;
            for (int i = from; i < to; i++) {
                value = value * 10 + bytes[i] - '0';
            }
            return value;
        }

        private static boolean isBlank(int sign) {
            return sign == ' ' || sign == 10;
        }

        private static boolean isLetter(int sign) {
            return sign >= 'a' && sign <= 'z' || sign >= 'A' && sign <= 'Z';
        }

        private static boolean isDigit(int sign) {
            return sign >= '0' && sign <= '9';
        }

        int token() {
            return tokens[at];
        }

        int number() {
            return numbers[at];
        }

        void step() {
            // The end stays what stands next, however often it is stepped over.
            if (tokens[at] != END && at < MOST) {
                at++;
            }
        }

        boolean refuse(int why) {
            fault = why;
            faultPlace = places[at];
            return false;
        }

        boolean expect(int token) {
            if (tokens[at] != token) {
                return refuse(WRONG);
            }
            step();
            return true;
        }

        /** The number that stands next, or NONE and a fault if it isn't one within these bounds. */
        int expectNumber(int least, int most) {
            int value = numbers[at];
            if (tokens[at] != NUMBER) {
                refuse(WRONG);
                return NONE;
            }
            if (value < least || value > most) {
                refuse(BEYOND);
                return NONE;
            }
            step();
            return value;
        }
    }

    /** The law: lines whose sums and conditions are kept in the order in which they are reckoned. */
    private static final class Law {
        static final int MOST_LINES = 16;
        static final int MOST_OPEN = 8;
        // Two waiting truths for each of nine levels and four numbers fit.
        static final int STACK = 32;
        static final int FACTS = 9;
        static final int TELL = Tape.WORD + 9;
        static final int ERR = Tape.WORD + 10;
        static final int BLAME = Tape.WORD + 11;
        static final int WHEN = Tape.WORD + 12;
        static final int OR = Tape.WORD + 13;
        static final int AND = Tape.WORD + 14;
        static final int NOT = Tape.WORD + 15;
        private static final String WORDS =
                "sort fear bribe glass kind stand day minister off tell err blame when or and not ";

        private final int[] words = new int[MOST_LINES];
        private final int[] froms = new int[MOST_LINES];
        private final int[] whens = new int[MOST_LINES];
        private final int[] ends = new int[MOST_LINES];
        // A number stands for itself, a token below 0 for its word or sign.
        private final int[] code = new int[Tape.MOST];
        private final int[] stack = new int[STACK];
        private final int[] facts = new int[FACTS];
        private int size;
        int count;

        void take(Law other) {
            count = other.count;
            size = other.size;
            System.arraycopy(other.words, 0, words, 0, MOST_LINES);
            System.arraycopy(other.froms, 0, froms, 0, MOST_LINES);
            System.arraycopy(other.whens, 0, whens, 0, MOST_LINES);
            System.arraycopy(other.ends, 0, ends, 0, MOST_LINES);
            System.arraycopy(other.code, 0, code, 0, Tape.MOST);
        }

        boolean read(Tape tape) {
            tape.split(WORDS);
            count = 0;
            size = 0;
            for (int i = 0; i <= MOST_LINES && tape.token() != Tape.END; i++) {
                if (!readLine(tape)) {
                    return false;
                }
            }
            return true;
        }

        private boolean readLine(Tape tape) {
            int word = tape.token();
            if (word != TELL && word != ERR && word != BLAME) {
                return tape.refuse(Tape.WRONG);
            }
            if (count >= MOST_LINES) {
                return tape.refuse(Tape.TOO_MANY);
            }
            tape.step();
            words[count] = word;
            froms[count] = size;
            if (!readSum(tape)) {
                return false;
            }
            whens[count] = size;
            if (tape.token() == WHEN) {
                tape.step();
                if (!readEither(tape, 0)) {
                    return false;
                }
            }
            ends[count] = size;
            count++;
            return tape.expect(';');
        }

        /** Tests joined by "and", these joined by "or". */
        private boolean readEither(Tape tape, int open) {
            boolean or = false;
            boolean and = false;
            for (int i = 0; i < Tape.MOST; i++) {
                if (!readTest(tape, open)) {
                    return false;
                }
                if (and) {
                    emit(-AND);
                }
                and = tape.token() == AND;
                if (!and) {
                    if (or) {
                        emit(-OR);
                    }
                    or = tape.token() == OR;
                    if (!or) {
                        return true;
                    }
                }
                tape.step();
            }
            return tape.refuse(Tape.WRONG);
        }

        private boolean readTest(Tape tape, int open) {
            int token = tape.token();
            if (token == NOT || token == '(') {
                if (open >= MOST_OPEN) {
                    return tape.refuse(Tape.TOO_MANY);
                }
                tape.step();
                if (token == '(') {
                    return readEither(tape, open + 1) && tape.expect(')');
                }
                if (!readTest(tape, open + 1)) {
                    return false;
                }
                emit(-NOT);
                return true;
            }
            if (!readSum(tape)) {
                return false;
            }
            int sign = tape.token();
            if (sign != '<' && sign != '=' && sign != '>') {
                return tape.refuse(Tape.WRONG);
            }
            tape.step();
            if (!readSum(tape)) {
                return false;
            }
            emit(-sign);
            return true;
        }

        /** Units joined by * and /, these joined by + and -. */
        private boolean readSum(Tape tape) {
            int add = 0;
            int times = 0;
            for (int i = 0; i < Tape.MOST; i++) {
                if (!readUnit(tape, times == '/')) {
                    return false;
                }
                if (times != 0) {
                    emit(-times);
                }
                int sign = tape.token();
                times = sign == '*' || sign == '/' ? sign : 0;
                if (times == 0) {
                    if (add != 0) {
                        emit(-add);
                    }
                    add = sign;
                    if (sign != '+' && sign != '-') {
                        return true;
                    }
                }
                tape.step();
            }
            return tape.refuse(Tape.WRONG);
        }

        private boolean readUnit(Tape tape, boolean divides) {
            int token = tape.token();
            boolean isFact = token >= Tape.WORD && token < Tape.WORD + FACTS;
            if (token != Tape.NUMBER && (divides || !isFact)) {
                return tape.refuse(Tape.WRONG);
            }
            if (divides && tape.number() == 0) {
                return tape.refuse(Tape.BEYOND);
            }
            emit(isFact ? -token : tape.number());
            tape.step();
            return true;
        }

        private void emit(int what) {
            if (size < Tape.MOST) {
                code[size] = what;
                size++;
            }
        }

        /** All that the law may ask of a teller but how far off it was. */
        void learn(Court court, int teller) {
            facts[0] = court.get(teller, Court.SORT);
            facts[1] = court.get(teller, Court.FEAR);
            facts[2] = court.get(teller, Court.BRIBE);
            facts[3] = court.glass;
            facts[4] = court.kind();
            facts[5] = court.get(teller, Court.STAND);
            facts[6] = court.day;
            facts[7] = court.minister == teller ? 1 : 0;
        }

        /** What the first fitting line with this word tells; where none fits, what is told otherwise. */
        int answer(int word, int off, int otherwise) {
            facts[8] = off;
            for (int i = 0; i < count && i < MOST_LINES; i++) {
                if (words[i] == word && (whens[i] == ends[i] || reckon(whens[i], ends[i]) != 0)) {
                    return reckon(froms[i], whens[i]);
                }
            }
            return otherwise;
        }

        private int reckon(int from, int to) {
            int top = 0;
            for (int i = from; i < to && i < Tape.MOST; i++) {
                int step = code[i];
                boolean isFact = -step >= Tape.WORD && -step < Tape.WORD + FACTS;
                if ((step >= 0 || isFact) && top < STACK) {
                    stack[top] = isFact ? facts[-step - Tape.WORD] : step;
                    top++;
                } else if (-step == NOT && top > 0) {
                    stack[top - 1] = 1 - stack[top - 1];
                } else if (top > 1) {
                    top--;
                    stack[top - 1] = join(-step, stack[top - 1], stack[top]);
                }
            }
            return stack[0];
        }

        private static int join(int sign, int a, int b) {
            switch (sign) {
                case '+': return a + b;
                case '-': return a - b;
                case '*': return a * b;
                case '/': return b == 0 ? 0 : a / b;
                case '<': return a < b ? 1 : 0;
                case '=': return a == b ? 1 : 0;
                case '>': return a > b ? 1 : 0;
                case AND: return a & b;
                default: return a | b;
            }
        }
    }

    /** How pressure goes, round after round from the first day on. */
    private static final class Rounds {
        static final int MOST_LINES = 12;
        static final int MOST_DAYS = 30;
        static final int MOST_MOVE = 40;
        private static final int FOR = Tape.WORD;
        private static final int RISE = Tape.WORD + 1;
        private static final int FALL = Tape.WORD + 2;
        private static final String WORDS = "for rise fall ";

        private final int[] lasts = new int[MOST_LINES];
        private final int[] moves = new int[MOST_LINES];
        private int all;
        int count;

        void take(Rounds other) {
            count = other.count;
            all = other.all;
            System.arraycopy(other.lasts, 0, lasts, 0, MOST_LINES);
            System.arraycopy(other.moves, 0, moves, 0, MOST_LINES);
        }

        boolean read(Tape tape) {
            tape.split(WORDS);
            count = 0;
            all = 0;
            for (int i = 0; i <= MOST_LINES && tape.token() != Tape.END; i++) {
                if (!readLine(tape)) {
                    return false;
                }
            }
            return true;
        }

        private boolean readLine(Tape tape) {
            if (tape.token() == FOR && count >= MOST_LINES) {
                return tape.refuse(Tape.TOO_MANY);
            }
            if (!tape.expect(FOR)) {
                return false;
            }
            int last = tape.expectNumber(1, MOST_DAYS);
            if (last == NONE) {
                return false;
            }
            int way = tape.token();
            if (way != RISE && way != FALL) {
                return tape.refuse(Tape.WRONG);
            }
            tape.step();
            int move = tape.expectNumber(0, MOST_MOVE);
            if (move == NONE) {
                return false;
            }
            lasts[count] = last;
            moves[count] = way == RISE ? move : -move;
            all += last;
            count++;
            return tape.expect(';');
        }

        int moveOn(int day) {
            if (all <= 0) {
                return 0;
            }
            int left = day % all;
            for (int i = 0; i < count; i++) {
                if (left < lasts[i]) {
                    return moves[i];
                }
                left -= lasts[i];
            }
            return 0;
        }
    }

    /** What is to be done on which day; what is done is numbered as it is by hand. */
    private static final class Agenda {
        static final int MOST_LINES = 16;
        static final int TOP_DAY = 999;
        static final int TAP = 5;
        private static final int ON = Tape.WORD + 6;
        private static final String WORDS = "name bribe glue free recall tap on ";

        final int[] onDays = new int[MOST_LINES];
        final int[] acts = new int[MOST_LINES];
        final int[] whom = new int[MOST_LINES];
        final int[] much = new int[MOST_LINES];
        int count;

        void take(Agenda other) {
            count = other.count;
            System.arraycopy(other.onDays, 0, onDays, 0, MOST_LINES);
            System.arraycopy(other.acts, 0, acts, 0, MOST_LINES);
            System.arraycopy(other.whom, 0, whom, 0, MOST_LINES);
            System.arraycopy(other.much, 0, much, 0, MOST_LINES);
        }

        boolean read(Tape tape, int tellers) {
            tape.split(WORDS);
            count = 0;
            for (int i = 0; i <= MOST_LINES && tape.token() != Tape.END; i++) {
                if (!readLine(tape, tellers)) {
                    return false;
                }
            }
            return true;
        }

        private boolean readLine(Tape tape, int tellers) {
            if (tape.token() == ON && count >= MOST_LINES) {
                return tape.refuse(Tape.TOO_MANY);
            }
            if (!tape.expect(ON)) {
                return false;
            }
            onDays[count] = tape.expectNumber(0, TOP_DAY);
            if (onDays[count] == NONE) {
                return false;
            }
            acts[count] = tape.token() - Tape.WORD;
            if (!within(acts[count], 0, TAP)) {
                return tape.refuse(Tape.WRONG);
            }
            tape.step();
            if (acts[count] != TAP && !readWhom(tape, tellers)) {
                return false;
            }
            count++;
            return tape.expect(';');
        }

        private boolean readWhom(Tape tape, int tellers) {
            whom[count] = tape.expectNumber(0, tellers - 1);
            if (whom[count] == NONE) {
                return false;
            }
            if (acts[count] == Court.BRIBING) {
                much[count] = tape.expectNumber(0, MOST_BRIBE);
            } else if (acts[count] == Court.GLUEING) {
                much[count] = tape.expectNumber(0, KINDS - 1);
            } else {
                much[count] = 0;
            }
            return much[count] != NONE;
        }
    }

    /** The tellers, the weather and all else that a day or a hand changes. */
    private static final class Court {
        static final int SORT = 0;
        static final int FEAR = 1;
        static final int BRIBE = 2;
        static final int GLUE = 3;
        static final int STAND = 4;
        static final int GONE = 5;
        static final int SAID = 6;
        static final int WIDTH = 7;
        static final int NAMING = 0;
        static final int BRIBING = 1;
        static final int GLUEING = 2;
        static final int FREEING = 3;
        static final int RECALLING = 4;

        // In thought nothing is drawn and nothing is written down.
        private final boolean real;
        private final int[] rows = new int[MOST_TELLERS * WIDTH];
        int count;
        int state;
        int glass = 50;
        int gusts;
        int falls = -10;
        int minister = NONE;
        int floods;
        int coin;
        int day;
        int lines;
        int recorded;

        Court(boolean real) {
            this.real = real;
        }

        void take(Court other) {
            System.arraycopy(other.rows, 0, rows, 0, MOST_TELLERS * WIDTH);
            count = other.count;
            state = other.state;
            glass = other.glass;
            gusts = other.gusts;
            falls = other.falls;
            minister = other.minister;
            floods = other.floods;
            coin = other.coin;
            day = other.day;
            lines = other.lines;
            recorded = other.recorded;
        }

        int admit(int sort, int fear) {
            if (count >= MOST_TELLERS) {
                return NONE;
            }
            int number = count;
            count++;
            put(number, SORT, sort);
            put(number, FEAR, fear);
            put(number, BRIBE, 0);
            put(number, GLUE, NONE);
            put(number, STAND, 0);
            put(number, GONE, 0);
            put(number, SAID, NONE);
            return number;
        }

        boolean has(int teller) {
            return teller >= 0 && teller < count;
        }

        int get(int teller, int what) {
            return has(teller) && within(what, 0, WIDTH - 1) ? rows[teller * WIDTH + what] : NONE;
        }

        void put(int teller, int what, int v) {
            if (has(teller) && within(what, 0, WIDTH - 1)) {
                rows[teller * WIDTH + what] = v;
            }
        }

        void addStand(int teller, int more) {
            put(teller, STAND, hold(get(teller, STAND) + more, -MOST_STAND, MOST_STAND));
        }

        boolean serving(int teller) {
            return has(teller) && get(teller, GONE) == 0;
        }

        int servingSet() {
            int found = 0;
            for (int t = 0; t < count; t++) {
                if (serving(t)) {
                    found |= 1 << t;
                }
            }
            return found;
        }

        int kind() {
            return glass / KIND_WIDTH;
        }

        int draw(int m) {
            state = 1664525 * state + 1013904223;
            return m > 0 ? (state >>> 8) % m : 0;
        }

        boolean allows(int what, int teller, int v) {
            if (!has(teller)) {
                return false;
            }
            switch (what) {
                case NAMING: return serving(teller);
                case BRIBING: return within(v, 0, MOST_BRIBE);
                case GLUEING: return within(v, 0, KINDS - 1);
                case FREEING: return get(teller, GLUE) != NONE;
                case RECALLING: return !serving(teller);
                default: return false;
            }
        }

        void tapAll() {
            for (int t = 0; t < count; t++) {
                if (serving(t)) {
                    coin += get(t, GLUE) == NONE ? 1 : -1;
                }
            }
        }

        int bestStanding() {
            int best = NONE;
            for (int t = 0; t < count; t++) {
                if (serving(t) && (best == NONE || get(t, STAND) > get(best, STAND))) {
                    best = t;
                }
            }
            return best;
        }
    }

    /** The lines of the book; how many of them count stands in the court, so that undoing cuts them off. */
    private static final class Book {
        static final int MOST = 150;
        static final int WIDTH = 4;
        static final int CAME = 0;
        static final int RIGHTLY = 1;
        static final int FLOOD = 2;
        static final int FALLEN = 3;
        static final int NAMED = 4;
        private final int[] rows = new int[MOST * WIDTH];

        void take(Book other) {
            System.arraycopy(other.rows, 0, rows, 0, MOST * WIDTH);
        }

        void write(Court court, int what, int which, int much) {
            if (!court.real || !within(court.lines, 0, MOST - 1)) {
                return;
            }
            int at = court.lines * WIDTH;
            rows[at] = court.day;
            rows[at + 1] = what;
            rows[at + 2] = which;
            rows[at + 3] = much;
            court.lines++;
        }

        int read(int line, int what) {
            return within(line, 0, MOST - 1) && within(what, 0, WIDTH - 1) ? rows[line * WIDTH + what] : NONE;
        }
    }

    /** Who told what on which day, and what came; how many days were told stands in the court. */
    private static final class Memory {
        static final int KEPT = 90;
        // As many days more as can be undone, so that undoing finds again what had fallen out.
        static final int SLOTS = KEPT + Steps.MOST;
        static final int LEAST_GLUED = 3;
        private final int[] came = new int[SLOTS];
        private final int[] said = new int[SLOTS * MOST_TELLERS];
        final int[] cameDays = new int[KINDS];
        final int[] saidDays = new int[KINDS];

        void take(Memory other) {
            System.arraycopy(other.came, 0, came, 0, SLOTS);
            System.arraycopy(other.said, 0, said, 0, SLOTS * MOST_TELLERS);
        }

        void add(Court court) {
            int slot = Math.floorMod(court.recorded, SLOTS);
            came[slot] = court.kind();
            for (int t = 0; t < MOST_TELLERS; t++) {
                said[slot * MOST_TELLERS + t] = court.get(t, Court.SAID);
            }
            court.recorded++;
        }

        static int kept(Court court) {
            return Math.min(court.recorded, KEPT);
        }

        private static int slotOf(Court court, int back) {
            return Math.floorMod(court.recorded - 1 - back, SLOTS);
        }

        private int saidIn(int slot, int teller) {
            return within(teller, 0, MOST_TELLERS - 1) ? said[slot * MOST_TELLERS + teller] : NONE;
        }

        int toldDays(Court court, int teller) {
            int found = 0;
            for (int i = 0; i < kept(court); i++) {
                if (saidIn(slotOf(court, i), teller) != NONE) {
                    found++;
                }
            }
            return found;
        }

        int rightDays(Court court, int teller) {
            int found = 0;
            for (int i = 0; i < kept(court); i++) {
                int slot = slotOf(court, i);
                if (saidIn(slot, teller) == came[slot]) {
                    found++;
                }
            }
            return found;
        }

        /** Counts for each kind on how many days it came while the teller told, and told just that. */
        void countDays(Court court, int teller, int told) {
            for (int k = 0; k < KINDS; k++) {
                cameDays[k] = 0;
                saidDays[k] = 0;
            }
            for (int i = 0; i < kept(court); i++) {
                int slot = slotOf(court, i);
                int word = saidIn(slot, teller);
                int kind = came[slot];
                if (word != NONE && within(kind, 0, KINDS - 1)) {
                    cameDays[kind]++;
                    saidDays[kind] += word == told ? 1 : 0;
                }
            }
        }

        boolean looksGlued(Court court, int teller) {
            int days = 0;
            int word = NONE;
            int kind = NONE;
            boolean changed = false;
            for (int i = 0; i < kept(court); i++) {
                int slot = slotOf(court, i);
                int told = saidIn(slot, teller);
                if (told == NONE) {
                    continue;
                }
                if (days > 0 && told != word) {
                    return false;
                }
                if (days > 0 && came[slot] != kind) {
                    changed = true;
                }
                word = told;
                kind = came[slot];
                days++;
            }
            return changed && days >= LEAST_GLUED;
        }
    }

    /** What was told for thought alone: pressure seen, umbrellas, posts and mixes. */
    private static final class Notes {
        static final int MOST_SEEN = 12;
        static final int MOST_UMBRELLAS = 20;
        static final int COURTIERS = 12;
        static final int ALL_COURTIERS = (1 << COURTIERS) - 1;
        static final int MOST_POSTS = 6;
        static final int MOST_WORTH = 99;
        static final int MIXES = 4;
        static final int MOST_MIX = 99;
        static final int THOUSAND = 1000;

        private final int[] seenGlass = new int[MOST_SEEN];
        private final int[] tellsWho = new int[MOST_UMBRELLAS];
        private final int[] tellsWhom = new int[MOST_UMBRELLAS];
        private final int[] postSorts = new int[MOST_POSTS];
        private final int[] postWorths = new int[MOST_POSTS];
        private final int[] gains = new int[MIXES];
        int seenCount;
        int umbrellaCount;
        int postCount;

        void take(Notes other) {
            seenCount = other.seenCount;
            umbrellaCount = other.umbrellaCount;
            postCount = other.postCount;
            System.arraycopy(other.seenGlass, 0, seenGlass, 0, MOST_SEEN);
            System.arraycopy(other.tellsWho, 0, tellsWho, 0, MOST_UMBRELLAS);
            System.arraycopy(other.tellsWhom, 0, tellsWhom, 0, MOST_UMBRELLAS);
            System.arraycopy(other.postSorts, 0, postSorts, 0, MOST_POSTS);
            System.arraycopy(other.postWorths, 0, postWorths, 0, MOST_POSTS);
            System.arraycopy(other.gains, 0, gains, 0, MIXES);
        }

        int addSeen(int glass) {
            if (glass == NONE) {
                seenCount = 0;
                return 0;
            }
            if (!within(glass, 0, TOP_GLASS) || seenCount >= MOST_SEEN) {
                return NONE;
            }
            seenGlass[seenCount] = glass;
            seenCount++;
            return seenCount;
        }

        int period() {
            for (int p = 1; p < seenCount; p++) {
                if (repeatsAfter(p)) {
                    return p;
                }
            }
            return seenCount;
        }

        private boolean repeatsAfter(int p) {
            for (int i = p; i < seenCount; i++) {
                if (seenGlass[i] != seenGlass[i - p]) {
                    return false;
                }
            }
            return true;
        }

        int seenBehind(int n) {
            int p = period();
            if (p <= 0) {
                return NONE;
            }
            return seenGlass[Math.floorMod(seenCount - 1 + n, p)];
        }

        int addUmbrella(int who, int whom, int tellers) {
            if (who == NONE) {
                umbrellaCount = 0;
                return 0;
            }
            if (!within(who, 0, tellers - 1) || !within(whom, 0, COURTIERS - 1)
                    || umbrellaCount >= MOST_UMBRELLAS) {
                return NONE;
            }
            tellsWho[umbrellaCount] = who;
            tellsWhom[umbrellaCount] = whom;
            umbrellaCount++;
            return umbrellaCount;
        }

        int courtiersOf(int teller) {
            int found = 0;
            for (int i = 0; i < umbrellaCount; i++) {
                if (tellsWho[i] == teller) {
                    found |= 1 << tellsWhom[i];
                }
            }
            return found;
        }

        private int tellersOf(int courtier) {
            int found = 0;
            for (int i = 0; i < umbrellaCount; i++) {
                if (courtier == NONE || tellsWhom[i] == courtier) {
                    found |= 1 << tellsWho[i];
                }
            }
            return Integer.bitCount(found);
        }

        /** The courtier who parts the tellers told of most evenly. */
        int bestToAsk() {
            int all = tellersOf(NONE);
            if (all < 2) {
                return NONE;
            }
            int best = NONE;
            int least = 0;
            for (int b = 0; b < COURTIERS; b++) {
                int tell = tellersOf(b);
                int greater = Math.max(tell, all - tell);
                if (best == NONE || greater < least) {
                    best = b;
                    least = greater;
                }
            }
            return best;
        }

        int addPost(int sort, int worth) {
            if (sort == NONE) {
                postCount = 0;
                return 0;
            }
            if (!within(sort, 0, MOST_SORT) || !within(worth, 1, MOST_WORTH) || postCount >= MOST_POSTS) {
                return NONE;
            }
            postSorts[postCount] = sort;
            postWorths[postCount] = worth;
            postCount++;
            return postCount;
        }

        int worthOf(int post, int sort) {
            if (!within(post, 0, postCount - 1)) {
                return 0;
            }
            return postSorts[post] == sort ? 2 * postWorths[post] : postWorths[post];
        }

        boolean setMix(int k, int v) {
            if (!within(k, 0, MIXES - 1) || !within(v, 0, MOST_MIX)) {
                return false;
            }
            gains[k] = v;
            return true;
        }

        /** What she gets at the least if she asks for truth p times of a thousand. */
        int mixWorth(int p) {
            int easeTold = p * gains[2] + (THOUSAND - p) * gains[0];
            int truthTold = p * gains[3] + (THOUSAND - p) * gains[1];
            return Math.min(easeTold, truthTold);
        }

        int bestMix() {
            int best = 0;
            int most = mixWorth(0);
            for (int p = 1; p <= THOUSAND; p++) {
                int worth = mixWorth(p);
                if (worth > most) {
                    best = p;
                    most = worth;
                }
            }
            return best;
        }
    }

    /** The courts as they were ahead of the latest steps. */
    private static final class Steps {
        static final int MOST = 6;
        private final Court[] courts = new Court[MOST];
        private int next;
        int count;

        Steps() {
            for (int i = 0; i < MOST; i++) {
                courts[i] = new Court(false);
            }
        }

        void keep(Court court) {
            Court slot = courts[next];
            if (slot != null) {
                slot.take(court);
            }
            next = next + 1 < MOST ? next + 1 : 0;
            count = Math.min(count + 1, MOST);
        }

        boolean back(Court court) {
            if (count <= 0) {
                return false;
            }
            next = next > 0 ? next - 1 : MOST - 1;
            count--;
            Court slot = courts[next];
            if (slot != null) {
                court.take(slot);
            }
            return true;
        }

        void forget() {
            count = 0;
        }
    }

    /** Thoughts over sets of tellers; one table serves them all, so that no thought makes its own. */
    private static final class Council {
        static final int SETS = 1 << MOST_TELLERS;
        static final int MOST_VOTES = 10;
        private final int[] table = new int[(Notes.MOST_POSTS + 1) * SETS];
        private final int[] worths = new int[Notes.MOST_POSTS * MOST_TELLERS];

        private static int votesOf(Court court, int teller) {
            return court.serving(teller) ? MOST_VOTES - court.get(teller, Court.FEAR) : 0;
        }

        /** The table has the votes of each set then; how many there are in all. */
        private int countVotes(Court court) {
            table[0] = 0;
            for (int t = 0; t < MOST_TELLERS; t++) {
                table[1 << t] = votesOf(court, t);
            }
            for (int s = 1; s < SETS; s++) {
                table[s] = table[s & (s - 1)] + table[s & -s];
            }
            return table[SETS - 1];
        }

        int winners(Court court) {
            int all = countVotes(court);
            int best = NONE;
            for (int s = 1; s < SETS; s++) {
                if (2 * table[s] > all && (best == NONE || Integer.bitCount(s) < Integer.bitCount(best))) {
                    best = s;
                }
            }
            return best;
        }

        int weightOf(Court court, int teller) {
            int all = countVotes(court);
            int own = votesOf(court, teller);
            int others = court.servingSet() & ~(1 << teller);
            int found = 0;
            for (int s = 0; s < SETS; s++) {
                if ((s & ~others) == 0 && 2 * table[s] <= all && 2 * (table[s] + own) > all) {
                    found++;
                }
            }
            return found;
        }

        int leaking(Notes notes, int took) {
            int best = took == 0 ? 0 : NONE;
            table[0] = 0;
            for (int t = 0; t < MOST_TELLERS; t++) {
                table[1 << t] = notes.courtiersOf(t);
            }
            for (int s = 1; s < SETS; s++) {
                table[s] = table[s & (s - 1)] | table[s & -s];
                if (table[s] == took && (best == NONE || Integer.bitCount(s) < Integer.bitCount(best))) {
                    best = s;
                }
            }
            return best;
        }

        int wrongHats(Court court) {
            int all = court.servingSet();
            table[0] = 1;
            for (int s = 1; s <= all && s < SETS; s++) {
                if ((s & ~all) == 0) {
                    table[s] = waysWithHats(court, s, memberOf(all, Integer.bitCount(s) - 1));
                }
            }
            return table[all];
        }

        private static int memberOf(int set, int index) {
            int left = set;
            for (int i = 0; i < index; i++) {
                left &= left - 1;
            }
            return Integer.numberOfTrailingZeros(left);
        }

        /** In how many ways these hats are had, if the last who has one of them is told. */
        private int waysWithHats(Court court, int hats, int last) {
            int ways = 0;
            int sort = court.get(last, Court.SORT);
            for (int h = 0; h < MOST_TELLERS; h++) {
                if ((hats >> h & 1) == 1 && court.get(h, Court.SORT) != sort) {
                    ways += table[hats ^ 1 << h];
                }
            }
            return ways;
        }

        /** What each teller is worth at each post; 0 where it can't serve. */
        private void countWorths(Court court, Notes notes) {
            for (int post = 0; post < Notes.MOST_POSTS; post++) {
                for (int t = 0; t < MOST_TELLERS; t++) {
                    boolean can = court.serving(t);
                    worths[post * MOST_TELLERS + t] = can ? notes.worthOf(post, court.get(t, Court.SORT)) : 0;
                }
            }
        }

        /** The table has then, for each post and set of those who serve already, the greatest sum from that post on. */
        int greatestService(Court court, Notes notes) {
            countWorths(court, notes);
            for (int s = 0; s < SETS; s++) {
                table[notes.postCount * SETS + s] = 0;
            }
            for (int post = notes.postCount - 1; post >= 0; post--) {
                for (int s = 0; s < SETS; s++) {
                    // No more can serve already than there are posts ahead of this one.
                    if (Integer.bitCount(s) <= post) {
                        table[post * SETS + s] = bestFrom(post, s);
                    }
                }
            }
            return table[0];
        }

        private int bestFrom(int post, int taken) {
            int best = table[(post + 1) * SETS + taken];
            for (int t = 0; t < MOST_TELLERS; t++) {
                int worth = worths[post * MOST_TELLERS + t];
                if (worth > 0 && (taken >> t & 1) == 0) {
                    best = Math.max(best, worth + table[(post + 1) * SETS + (taken | 1 << t)]);
                }
            }
            return best;
        }

        int holderOf(Court court, Notes notes, int asked) {
            greatestService(court, notes);
            int taken = 0;
            int holder = NONE;
            for (int post = 0; post <= asked && post < notes.postCount; post++) {
                holder = firstHolder(post, taken);
                if (holder != NONE) {
                    taken |= 1 << holder;
                }
            }
            return holder;
        }

        private int firstHolder(int post, int taken) {
            int best = table[post * SETS + taken];
            for (int t = 0; t < MOST_TELLERS; t++) {
                int worth = worths[post * MOST_TELLERS + t];
                if (worth > 0 && (taken >> t & 1) == 0
                        && worth + table[(post + 1) * SETS + (taken | 1 << t)] == best) {
                    return t;
                }
            }
            return NONE;
        }

        /** Who is tapped, or how often, by one who begins well; what is left by 3 of each decides who wins. */
        static int goodTap(Court court, boolean howMany) {
            int all = 0;
            for (int t = 0; t < court.count; t++) {
                all ^= court.serving(t) ? court.get(t, Court.FEAR) % 3 : 0;
            }
            for (int t = 0; t < court.count; t++) {
                int fear = court.get(t, Court.FEAR);
                for (int tap = 1; tap <= 2 && tap <= fear && court.serving(t); tap++) {
                    if ((all ^ fear % 3 ^ (fear - tap) % 3) == 0) {
                        return howMany ? tap : t;
                    }
                }
            }
            return NONE;
        }
    }

    /** All that an image has: the court and what was told of it, and how its days go. */
    private static final class World {
        static final int EVEN_CHANCE = 200000;
        static final long MILLION = 1000000;
        static final int SWAY = 10;
        static final int FLOOD_BLAME = 20;
        static final int LEAST_WET = 2;

        final Court court = new Court(true);
        final Law law = new Law();
        final Rounds rounds = new Rounds();
        final Agenda agenda = new Agenda();
        final Book book = new Book();
        final Memory memory = new Memory();
        final Notes notes = new Notes();
        private final long[] chances = new long[KINDS];

        void take(World other) {
            court.take(other.court);
            law.take(other.law);
            rounds.take(other.rounds);
            agenda.take(other.agenda);
            book.take(other.book);
            memory.take(other.memory);
            notes.take(other.notes);
        }

        int tellBy(Court c, int teller) {
            law.learn(c, teller);
            return hold(law.answer(Law.TELL, 0, c.kind()), 0, KINDS - 1);
        }

        int errBy(Court c, int teller) {
            law.learn(c, teller);
            return hold(law.answer(Law.ERR, 0, 100 * c.get(teller, Court.FEAR)), 0, 1000);
        }

        int blameBy(Court c, int teller, int said) {
            int off = Math.abs(said - c.kind());
            law.learn(c, teller);
            return hold(law.answer(Law.BLAME, off, 3 * off), 0, 99);
        }

        int glassBehind(int glass, int day) {
            return hold(glass + rounds.moveOn(day), 0, TOP_GLASS);
        }

        /** A day goes by in a court, the real one or one in thought: who fell on it. */
        int pass(Court c) {
            followAgenda(c);
            boolean anyTold = tellAll(c);
            moveGlass(c);
            book.write(c, Book.CAME, c.kind(), c.glass);
            if (anyTold && c.real) {
                memory.add(c);
            }
            blameAll(c);
            floodAny(c);
            int fallen = fallAny(c);
            nameAny(c);
            c.day++;
            return fallen;
        }

        private void followAgenda(Court c) {
            for (int i = 0; i < agenda.count; i++) {
                if (agenda.onDays[i] != c.day) {
                    continue;
                }
                if (agenda.acts[i] == Agenda.TAP) {
                    c.tapAll();
                } else if (c.allows(agenda.acts[i], agenda.whom[i], agenda.much[i])) {
                    carryOut(c, agenda.acts[i], agenda.whom[i], agenda.much[i]);
                }
            }
        }

        void carryOut(Court c, int what, int teller, int v) {
            int much = 0;
            if (what == Court.NAMING) {
                c.minister = teller;
            } else if (what == Court.BRIBING) {
                c.put(teller, Court.BRIBE, v);
                c.coin -= v;
                much = v;
            } else if (what == Court.GLUEING) {
                c.put(teller, Court.GLUE, v);
                much = v;
            } else if (what == Court.FREEING) {
                c.put(teller, Court.GLUE, NONE);
            } else {
                c.put(teller, Court.GONE, 0);
                c.put(teller, Court.STAND, 0);
            }
            book.write(c, Book.NAMED + what, teller, much);
        }

        private boolean tellAll(Court c) {
            boolean any = false;
            for (int t = 0; t < c.count; t++) {
                if (c.serving(t)) {
                    int glue = c.get(t, Court.GLUE);
                    c.put(t, Court.SAID, glue == NONE ? freeWord(c, t) : glue);
                    any = true;
                } else {
                    c.put(t, Court.SAID, NONE);
                }
            }
            return any;
        }

        private int freeWord(Court c, int teller) {
            int word = tellBy(c, teller);
            int err = c.real ? errBy(c, teller) : 0;
            if (err > 0 && c.draw(1000) < err) {
                word += c.draw(2) == 0 ? -1 : 1;
            }
            return hold(word, 0, KINDS - 1);
        }

        private void moveGlass(Court c) {
            int glass = c.glass + rounds.moveOn(c.day);
            if (c.real && c.gusts > 0 && c.draw(1000) < c.gusts) {
                glass += c.draw(2 * SWAY + 1) - SWAY;
            }
            c.glass = hold(glass, 0, TOP_GLASS);
        }

        private void blameAll(Court c) {
            int first = NONE;
            int rightly = 0;
            for (int t = 0; t < c.count; t++) {
                if (!c.serving(t)) {
                    continue;
                }
                int said = c.get(t, Court.SAID);
                if (said != c.kind()) {
                    c.addStand(t, -blameBy(c, t, said));
                    continue;
                }
                c.addStand(t, 1);
                first = first == NONE ? t : first;
                rightly++;
            }
            if (first != NONE) {
                book.write(c, Book.RIGHTLY, first, rightly);
            }
        }

        private void floodAny(Court c) {
            if (c.kind() == 0 && c.minister != NONE && c.get(c.minister, Court.SAID) >= LEAST_WET) {
                c.floods++;
                c.addStand(c.minister, -FLOOD_BLAME);
                book.write(c, Book.FLOOD, c.minister, c.get(c.minister, Court.STAND));
            }
        }

        private int fallAny(Court c) {
            int minister = c.minister;
            if (minister == NONE || c.get(minister, Court.STAND) >= c.falls) {
                return NONE;
            }
            c.put(minister, Court.GONE, 1);
            c.minister = NONE;
            book.write(c, Book.FALLEN, minister, c.get(minister, Court.STAND));
            return minister;
        }

        private void nameAny(Court c) {
            if (c.minister != NONE) {
                return;
            }
            c.minister = c.bestStanding();
            if (c.minister != NONE) {
                book.write(c, Book.NAMED, c.minister, 0);
            }
        }

        /** How much a teller that says this would be blamed in all; the court told is one of thought, and changed. */
        int blameTomorrow(Court c, int teller, int said) {
            int middle = c.glass + rounds.moveOn(c.day);
            int blame = 0;
            for (int sway = -SWAY; sway <= SWAY; sway++) {
                c.glass = hold(middle + sway, 0, TOP_GLASS);
                blame += c.kind() == said ? -1 : blameBy(c, teller, said);
            }
            return blame;
        }

        /** Weighs each kind by what all told; false if none did. */
        boolean weighKinds() {
            boolean any = false;
            for (int k = 0; k < KINDS; k++) {
                chances[k] = EVEN_CHANCE;
            }
            for (int t = 0; t < court.count; t++) {
                int said = court.get(t, Court.SAID);
                if (!court.serving(t) || said == NONE) {
                    continue;
                }
                any = true;
                memory.countDays(court, t, said);
                for (int k = 0; k < KINDS; k++) {
                    chances[k] = chances[k] * (1 + memory.saidDays[k]) / (KINDS + memory.cameDays[k]);
                }
            }
            return any;
        }

        int heaviestKind() {
            int best = 0;
            for (int k = 1; k < KINDS; k++) {
                if (chances[k] > chances[best]) {
                    best = k;
                }
            }
            return best;
        }

        int shareOfMillion(int kind) {
            long all = 0;
            for (int k = 0; k < KINDS; k++) {
                all += chances[k];
            }
            return all > 0 && within(kind, 0, KINDS - 1) ? (int) (chances[kind] * MILLION / all) : 0;
        }
    }
}
