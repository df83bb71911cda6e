import java.util.ArrayList;
import java.util.Arrays;
import java.util.List;
import java.util.Random;

/** Long runs of drawn calls, each answer held against a slow model that follows the document word by word. */
public final class ModelTests {
    private static final int RUNS = 1000, CALLS = 512;
    private static final int[] WILD = {Integer.MIN_VALUE, Integer.MAX_VALUE, -1, -2, -3, 0, 1, 9, 10, 11, 12, 24, 25, 32, 99,
        100, 1023, 1024, 1 << 16};

    public static void main(String[] args) {
        int wrong = 0;
        for (int run = 0; run < RUNS && wrong < 5; run++) {
            if (!agree(run)) {
                wrong++;
            }
        }
        System.out.println(RUNS + " runs of " + CALLS + " calls, " + wrong + " not as due");
        if (wrong != 0) {
            System.exit(1);
        }
    }

    private static boolean agree(int run) {
        Random random = new Random(1000 + run);
        int longest = 3 + run % 8;
        boolean calm = run % 3 > 0;
        FewTypes real = new FewTypes();
        Model model = new Model();
        StringBuilder told = new StringBuilder();
        int calls = 0;
        while (calls < CALLS) {
            List<long[]> drawn = calm && calls == 0 ? opening(random) : draw(random, longest, calm, model);
            for (long[] call : drawn) {
                calls++;
                int got = ask(real, call);
                int want = model.answer(call);
                told.append(Arrays.toString(call)).append(" -> ").append(got).append('\n');
                if (got != want) {
                    System.out.println("run " + run + ", call " + calls + ": due is " + want);
                    System.out.println(told.substring(Math.max(0, told.length() - 3000)));
                    return false;
                }
            }
        }
        return true;
    }

    private static int ask(FewTypes x, long[] c) {
        int[] a = new int[c.length];
        for (int i = 0; i < c.length; i++) {
            a[i] = (int) c[i];
        }
        switch (a[0]) {
            case 2: return x.cast(a[1], a[2], a[3]);
            case 3: return x.told(a[1], a[2]);
            case 4: return x.lose(a[1]);
            case 5: return x.width(a[1], a[2]);
            case 6: return x.rule(a[1], a[2]);
            case 7: return x.type(c[1], a[2]);
            case 8: return x.line();
            case 9: return x.types();
            case 10: return x.place(a[1], a[2]);
            case 11: return x.count(a[1]);
            case 12: return x.can(a[1]);
            case 13: return x.by(a[1], a[2]);
            case 14: return x.fewest();
            case 15: return x.plan(a[1]);
            case 16: return x.bound();
            case 17: return x.order(a[1]);
            case 18: return x.make(a[1]);
            case 19: return x.text(a[1]);
            case 20: return x.needs(a[1]);
            case 21: return x.lost(a[1]);
            case 22: return x.said(a[1]);
            case 23: return x.job(a[1], a[2]);
            case 24: return x.done();
            case 25: return x.clear();
            case 26: return x.image();
            case 27: return x.restore();
            case 28: return x.leaf(a[1], a[2], a[3]);
            case 29: return x.alike(a[1], a[2], a[3], a[4]);
            case 30: return x.sheet(a[1], a[2], a[3]);
            case 31: return x.drop(a[1]);
            case 32: return x.item(a[1], a[2], a[3], a[4]);
            default: return x.copy(a[1], a[2], a[3], a[4], a[5]);
        }
    }

    private static int pick(Random random, int least, int most) {
        if (random.nextInt(25) == 0) {
            return random.nextInt(3) == 0 ? random.nextInt() : WILD[random.nextInt(WILD.length)];
        }
        return least + random.nextInt(most - least + 1);
    }

    private static char letter(Random random) {
        int few = random.nextInt(8);
        return (char) ('a' + (few == 0 ? random.nextInt(12) : random.nextInt(3)));
    }

    /** Creep and unlike widths, without which no order has clashes. */
    private static List<long[]> opening(Random random) {
        List<long[]> calls = new ArrayList<>();
        calls.add(new long[] {6, 1, 1 + random.nextInt(3)});
        for (int letter = 0; letter < 4; letter++) {
            calls.add(new long[] {5, letter, 1 + random.nextInt(4)});
        }
        return calls;
    }

    /** Calm runs seldom take away what is there, so that more of their lines can be printed. */
    private static int drawKind(Random random, boolean calm) {
        int kind = random.nextInt(44);
        boolean wild = kind == 4 || kind == 7 || kind == 8 || kind == 9 || kind == 25 || kind == 27 || kind == 31;
        return calm && wild && random.nextInt(8) > 0 ? 34 + random.nextInt(10) : kind;
    }

    private static List<long[]> draw(Random random, int longest, boolean calm, Model model) {
        List<long[]> calls = new ArrayList<>();
        if (calm && model.state.types.size() < 4) {
            addTape(calls, random, drawCase(random));
            calls.add(new long[] {9});
            return calls;
        }
        int kind = drawKind(random, calm);
        switch (kind) {
            case 0: case 34:
                addTape(calls, random, drawLine(random, longest));
                calls.add(new long[] {8});
                break;
            case 1:
                addTape(calls, random, drawCase(random));
                calls.add(new long[] {9});
                break;
            case 7:
                calls.add(new long[] {7, random.nextBoolean() ? random.nextLong() : 0x6162632C745F6D6EL, pick(random, 1, 8)});
                break;
            case 28: case 35: case 36:
                drawLeaf(calls, random, model);
                break;
            case 37: case 38: case 39:
                for (int k = -2; k < 7; k++) {
                    calls.add(new long[] {random.nextBoolean() ? 17 : 15, k});
                }
                break;
            default:
                calls.add(drawOne(random, kind >= 40 ? 12 + random.nextInt(7) : kind, model));
        }
        return calls;
    }

    private static long[] drawOne(Random random, int kind, Model model) {
        int places = Math.max(1, model.state.letters.size());
        switch (kind) {
            case 2: return new long[] {2, pick(random, 0, 3), pick(random, 0, 3), pick(random, 0, 4)};
            case 3: return new long[] {3, pick(random, 0, 9), pick(random, 0, 3)};
            case 4: return new long[] {4, pick(random, 0, 9)};
            case 5: return new long[] {5, pick(random, 0, 4), pick(random, 1, 4)};
            case 6: return new long[] {6, pick(random, 0, 2), random.nextInt(4) == 0 ? pick(random, 0, 9) : pick(random, 0, 3)};
            case 8: return new long[] {8};
            case 9: return new long[] {9};
            case 10: return new long[] {10, pick(random, 0, 9), pick(random, 0, 2)};
            case 11: return new long[] {11, pick(random, 0, 4)};
            case 12: return new long[] {12, pick(random, 1, (1 << places) - 1)};
            case 13: return new long[] {13, pick(random, 1, (1 << places) - 1), pick(random, 0, places - 1)};
            case 15: return new long[] {15, pick(random, 0, 9)};
            case 17: return new long[] {17, pick(random, -2, 9)};
            case 18: return new long[] {18, random.nextInt(3) == 0 ? pick(random, 1, 99) : pick(random, 1, 3)};
            case 19: return new long[] {19, pick(random, 0, 3)};
            case 20: return new long[] {20, pick(random, 0, 7)};
            case 21: return new long[] {21, pick(random, 0, 9)};
            case 22: return new long[] {22, pick(random, 0, 3)};
            case 23: return new long[] {23, pick(random, 1, 24), random.nextBoolean() ? pick(random, 1, 60) : pick(random, 1, 200)};
            case 25: return new long[] {random.nextInt(4) == 0 ? 25 : 24};
            case 26: return new long[] {random.nextInt(2) == 0 ? 26 : 14};
            case 27: return new long[] {random.nextInt(2) == 0 ? 27 : 16};
            case 29: return new long[] {29, pick(random, 0, 3), pick(random, 0, 3), pick(random, 1, 8), pick(random, 0, 1)};
            case 30: return new long[] {30, pick(random, 0, 3), pick(random, 0, 2), pick(random, 0, 24)};
            case 31: return new long[] {random.nextInt(3) == 0 ? 31 : 24, pick(random, 0, 3)};
            case 32: return new long[] {32, pick(random, 0, 3), pick(random, 0, 2), pick(random, 0, 12), pick(random, 0, 2)};
            case 33: return new long[] {33, pick(random, 0, 3), pick(random, 0, 6), pick(random, 0, 3), pick(random, 0, 6), pick(random, 0, 5)};
            case 16: return new long[] {16};
            case 24: return new long[] {24};
            default: return new long[] {14};
        }
    }

    private static String drawLine(Random random, int longest) {
        StringBuilder s = new StringBuilder();
        int n = 1 + random.nextInt(longest);
        for (int i = 0; i < n; i++) {
            s.append(letter(random));
            if (i + 1 < n && random.nextInt(4) == 0) {
                s.append('_');
            }
        }
        return spoil(s, random);
    }

    private static String drawCase(Random random) {
        StringBuilder s = new StringBuilder();
        int n = 1 + random.nextInt(random.nextBoolean() ? 10 : 5);
        for (int i = 0; i < n; i++) {
            if (i > 0) {
                s.append(',');
            }
            int kind = random.nextInt(5);
            if (kind == 1) {
                s.append('t');
            } else if (kind == 2) {
                s.append('n');
            } else if (kind == 3) {
                s.append('m');
            }
            char first = letter(random);
            s.append(first);
            if (kind == 1 || kind == 2) {
                char second = letter(random);
                s.append(kind == 1 && second == first ? 'd' : second);
            } else if (kind == 3) {
                s.append(1 + random.nextInt(9));
            }
        }
        return spoil(s, random);
    }

    /** Blanks and, now and then, a sign too many, too few or another one. */
    private static String spoil(StringBuilder s, Random random) {
        for (int i = random.nextInt(3); i > 0; i--) {
            s.insert(random.nextInt(s.length() + 1), ' ');
        }
        if (random.nextInt(16) == 0) {
            s.insert(random.nextInt(s.length() + 1), "abltnm_,019 A~".charAt(random.nextInt(14)));
        }
        if (random.nextInt(20) == 0) {
            s.deleteCharAt(random.nextInt(s.length()));
        }
        return s.toString();
    }

    private static void addTape(List<long[]> calls, Random random, String text) {
        int i = 0;
        while (i < text.length()) {
            int n = Math.min(1 + random.nextInt(8), text.length() - i);
            if (random.nextInt(3) > 0) {
                n = Math.min(8, text.length() - i);
            }
            long w = random.nextInt(4) == 0 ? random.nextLong() : 0;
            for (int k = 0; k < n; k++) {
                w = w << 8 | text.charAt(i + k);
            }
            calls.add(new long[] {7, w, n});
            i += n;
        }
    }

    private static void drawLeaf(List<long[]> calls, Random random, Model model) {
        int places = model.state.letters.size();
        int sheet = random.nextInt(4);
        int lane = random.nextInt(3);
        int first = random.nextInt(3);
        calls.add(new long[] {30, sheet, lane, first + places + random.nextInt(2)});
        int pulls = 1 + random.nextInt(Math.max(1, Math.min(3, places)));
        for (int p = 0; p < places; p++) {
            int off = random.nextInt(40) == 0 ? random.nextInt() : random.nextInt(pulls) * model.state.rules[1];
            if (p < pulls) {
                off = p * model.state.rules[1];
            }
            calls.add(new long[] {32, sheet, lane, first + p, model.left(p) + off});
        }
        calls.add(new long[] {28, sheet, lane, first});
        calls.add(new long[] {28, sheet, pick(random, 0, 2), pick(random, 0, 4)});
    }

    /** What an image keeps. */
    private static final class State {
        List<int[]> types = new ArrayList<>();
        List<Integer> letters = new ArrayList<>();
        List<Boolean> blankAhead = new ArrayList<>();
        int[] widths = new int[12];
        int[] rules = {0, 0, 4};
        List<State> texts = new ArrayList<>();
        List<Integer> senses = new ArrayList<>();
        List<int[]> jobs = new ArrayList<>();

        State copied() {
            State s = new State();
            for (int[] t : types) {
                s.types.add(t.clone());
            }
            s.letters = new ArrayList<>(letters);
            s.blankAhead = new ArrayList<>(blankAhead);
            s.widths = widths.clone();
            s.rules = rules.clone();
            s.texts = new ArrayList<>(texts);
            s.senses = new ArrayList<>(senses);
            s.jobs = new ArrayList<>(jobs);
            return s;
        }
    }

    private static final class Model {
        State state = new State();
        State image = null;
        String tape = "";
        final int[][] rows = new int[4][];
        final int[] lanes = new int[4];
        private int[] fewestOfSet = new int[0];

        Model() {
            Arrays.fill(state.widths, 2);
        }

        int answer(long[] c) {
            int[] a = new int[6];
            for (int i = 0; i < c.length; i++) {
                a[i] = (int) c[i];
            }
            if (a[0] <= 11) {
                return answerTypes(a, c);
            }
            if (a[0] <= 18) {
                return answerPulls(a);
            }
            return a[0] <= 27 ? answerTexts(a) : answerSheets(a);
        }

        private int answerTypes(int[] a, long[] c) {
            switch (a[0]) {
                case 2:
                    if (!mayBe(a[1], a[2], a[3])) {
                        return -1;
                    }
                    if (state.types.size() == 10) {
                        return -3;
                    }
                    state.types.add(new int[] {a[1], a[2], a[3]});
                    return state.types.size() - 1;
                case 3:
                    return isType(a[1]) && a[2] >= 0 && a[2] <= 2 ? state.types.get(a[1])[a[2]] : -1;
                case 4:
                    if (!isType(a[1])) {
                        return -1;
                    }
                    state.types.remove(a[1]);
                    return state.types.size();
                case 5: {
                    if (a[1] < 0 || a[1] > 11 || a[2] < 1 || a[2] > 4) {
                        return -1;
                    }
                    int was = state.widths[a[1]];
                    state.widths[a[1]] = a[2];
                    return was;
                }
                case 6: {
                    boolean good = a[1] == 0 && a[2] >= 0 && a[2] <= 1 || a[1] == 1 && a[2] >= 0 && a[2] <= 3
                            || a[1] == 2 && a[2] >= 1 && a[2] <= 9;
                    if (!good) {
                        return -1;
                    }
                    int was = state.rules[a[1]];
                    state.rules[a[1]] = a[2];
                    return was;
                }
                case 7:
                    return type(c[1], a[2]);
                case 8:
                    return line();
                case 9:
                    return types();
                case 10:
                    if (!isPlace(a[1])) {
                        return -1;
                    }
                    return a[2] == 0 ? state.letters.get(a[1]) : a[2] == 1 ? left(a[1])
                            : a[2] == 2 ? (beside(a[1], a[1] + 1) ? 1 : 0) : -1;
                default:
                    return count(a[1]);
            }
        }

        private int count(int what) {
            switch (what) {
                case 0: return state.types.size();
                case 1: return state.letters.size();
                case 2: {
                    int last = state.letters.size() - 1;
                    return last < 0 ? 0 : left(last) + state.widths[state.letters.get(last)];
                }
                case 3: return state.texts.size();
                case 4: return state.jobs.size();
                default: return -1;
            }
        }

        private boolean mayBe(int kind, int letter, int more) {
            boolean letters = letter >= 0 && letter <= 11;
            boolean other = more >= 0 && more <= 11;
            return letters && (kind == 0 && more == 0 || kind == 1 && other && more != letter || kind == 2 && other
                    || kind == 3 && more >= 1 && more <= 9);
        }

        private boolean isType(int t) {
            return t >= 0 && t < state.types.size();
        }

        private boolean isPlace(int p) {
            return p >= 0 && p < state.letters.size();
        }

        int left(int place) {
            int sum = 0;
            for (int p = 0; p <= place; p++) {
                if (state.blankAhead.get(p)) {
                    sum += 2;
                }
                if (p < place) {
                    sum += state.widths[state.letters.get(p)];
                }
            }
            return sum;
        }

        private boolean beside(int p, int q) {
            return q == p + 1 && isPlace(p) && isPlace(q) && !state.blankAhead.get(q);
        }

        private int type(long w, int n) {
            if (n < 1 || n > 8) {
                return -1;
            }
            StringBuilder s = new StringBuilder();
            for (int i = n - 1; i >= 0; i--) {
                long b = (w >>> (8 * i)) & 0xFF;
                if (b < 32 || b > 126) {
                    return -1;
                }
                s.append((char) b);
            }
            if (tape.length() + n > 60) {
                return -3;
            }
            tape += s;
            return tape.length();
        }

        /**
         * The fault is the first byte behind which no text of the form begins: found by forms of all
         * beginnings, not by reading.
         */
        private int fault(String begin, String whole) {
            String bare = "";
            for (int i = 0; i < tape.length(); i++) {
                char c = tape.charAt(i);
                if (c != ' ') {
                    bare += c;
                    if (!bare.matches(begin)) {
                        return -20 - i;
                    }
                }
            }
            return bare.matches(whole) ? 0 : -20 - tape.length();
        }

        private int line() {
            // up to nine letters may be followed by a blank or a letter, the tenth by nothing
            int fault = fault("[a-l](_?[a-l]){0,9}|[a-l](_?[a-l]){0,8}_", "[a-l](_?[a-l]){0,9}");
            String read = tape.replace(" ", "");
            tape = "";
            if (fault != 0) {
                return fault;
            }
            state.letters.clear();
            state.blankAhead.clear();
            boolean blank = false;
            for (char c : read.toCharArray()) {
                if (c == '_') {
                    blank = true;
                } else {
                    state.letters.add(c - 'a');
                    state.blankAhead.add(blank);
                    blank = false;
                }
            }
            return state.letters.size();
        }

        private int types() {
            String type = "(?:[a-l]|" + turned() + "|n[a-l][a-l]|m[a-l][1-9])";
            String part = "(?:[tnm]|[tnm][a-l])";
            String begin = "(?:" + type + "(?:," + type + "){0,9}|(?:" + type + ",){0,9}" + part + "|(?:" + type + ",){1,9})";
            int fault = fault(begin, type + "(?:," + type + "){0,9}");
            String read = tape.replace(" ", "");
            tape = "";
            if (fault != 0) {
                return fault;
            }
            state.types.clear();
            for (String one : read.split(",")) {
                int kind = one.length() == 1 ? 0 : 1 + "tnm".indexOf(one.charAt(0));
                int letter = one.charAt(kind == 0 ? 0 : 1) - 'a';
                int more = kind == 0 ? 0 : one.charAt(2) - (kind == 3 ? '0' : 'a');
                state.types.add(new int[] {kind, letter, more});
            }
            return state.types.size();
        }

        private static String turned() {
            StringBuilder s = new StringBuilder("(?:");
            for (char c = 'a'; c <= 'l'; c++) {
                s.append(c == 'a' ? "t" : "|t").append(c).append("(?!").append(c).append(")[a-l]");
            }
            return s.append(')').toString();
        }

        // ---- pulls

        private int answerPulls(int[] a) {
            int all = (1 << state.letters.size()) - 1;
            boolean set = a[1] >= 1 && a[1] <= all;
            switch (a[0]) {
                case 12:
                    return set ? (leastWay(a[1]) != null ? 1 : 0) : -1;
                case 13: {
                    if (!set || !isPlace(a[2]) || (a[1] >> a[2] & 1) == 0) {
                        return -1;
                    }
                    int[] way = leastWay(a[1]);
                    return way == null ? -4 : way[a[2]];
                }
                case 14:
                    return all == 0 ? -2 : fewest();
                case 15: {
                    if (a[1] < 0 || a[1] > 9) {
                        return -1;
                    }
                    if (all == 0) {
                        return -2;
                    }
                    List<Integer> plan = plan();
                    return plan == null || a[1] >= plan.size() ? -4 : plan.get(a[1]);
                }
                case 16:
                    return all == 0 ? -2 : bound();
                case 17:
                    return a[1] < -2 || a[1] > 9 ? -1 : all == 0 ? -2 : order(a[1]);
                default:
                    return a[1] < 1 || a[1] > 99 ? -1 : all == 0 ? -2 : make(a[1]);
            }
        }

        /** Types by place, -1 where none; null if it can't be. The first way found is the least one. */
        private int[] leastWay(int set) {
            int[] way = new int[state.letters.size()];
            Arrays.fill(way, -1);
            return (countOf(set) <= 2 * state.types.size()) && print(set, 0, way, new boolean[10]) ? way : null;
        }

        private static int countOf(int set) {
            return Integer.bitCount(set);
        }

        private boolean print(int set, int from, int[] way, boolean[] used) {
            int p = from;
            while (p < way.length && ((set >> p & 1) == 0 || way[p] >= 0)) {
                p++;
            }
            if (p == way.length) {
                return keepsWedges(set, way);
            }
            for (int t = 0; t < state.types.size(); t++) {
                int[] type = state.types.get(t);
                int letter = state.letters.get(p);
                if (used[t] || likeEarlier(t, used)) {
                    continue;
                }
                used[t] = true;
                way[p] = t;
                if (type[0] == 2) {
                    if (beside(p, p + 1) && (set >> (p + 1) & 1) == 1 && type[1] == letter
                            && type[2] == state.letters.get(p + 1)) {
                        way[p + 1] = t;
                        if (print(set, p + 1, way, used)) {
                            return true;
                        }
                        way[p + 1] = -1;
                    }
                } else if ((type[1] == letter || type[0] == 1 && type[2] == letter) && print(set, p, way, used)) {
                    return true;
                }
                way[p] = -1;
                used[t] = false;
            }
            return false;
        }

        /** What an unused type of the same print could not do, this one can't. */
        private boolean likeEarlier(int t, boolean[] used) {
            for (int s = 0; s < t; s++) {
                int[] x = state.types.get(s);
                int[] y = state.types.get(t);
                boolean same = x[0] == y[0] && x[1] == y[1] && (x[0] == 3 || x[2] == y[2]);
                if (same && !used[s]) {
                    return true;
                }
            }
            return false;
        }

        private boolean keepsWedges(int set, int[] way) {
            if (state.rules[0] == 0) {
                return true;
            }
            for (int p = 0; p + 1 < way.length; p++) {
                if ((set >> p & 3) == 3 && beside(p, p + 1) && way[p] != way[p + 1]) {
                    return false;
                }
            }
            return true;
        }

        private void fillFewest() {
            int sets = 1 << state.letters.size();
            boolean[] can = new boolean[sets];
            fewestOfSet = new int[sets];
            for (int set = 1; set < sets; set++) {
                can[set] = leastWay(set) != null;
                fewestOfSet[set] = 1000;
                for (int pull = set; pull > 0; pull = (pull - 1) & set) {
                    if (can[pull]) {
                        fewestOfSet[set] = Math.min(fewestOfSet[set], 1 + fewestOfSet[set & ~pull]);
                    }
                }
            }
        }

        private int fewest() {
            fillFewest();
            int least = fewestOfSet[fewestOfSet.length - 1];
            return least >= 1000 ? -4 : least;
        }

        private List<Integer> plan() {
            if (fewest() < 0) {
                return null;
            }
            List<Integer> plan = new ArrayList<>();
            int rest = fewestOfSet.length - 1;
            while (rest != 0) {
                int pull = 1;
                while ((pull & ~rest) != 0 || fewestOfSet[pull] != 1 || fewestOfSet[rest & ~pull] != fewestOfSet[rest] - 1) {
                    pull++;
                }
                plan.add(pull);
                rest &= ~pull;
            }
            return plan;
        }

        private int bound() {
            int greatest = 0;
            for (int letter : state.letters) {
                int often = 0;
                for (int other : state.letters) {
                    often += other == letter ? 1 : 0;
                }
                int by = 0;
                for (int[] t : state.types) {
                    by += t[1] == letter ? 1 : 0;
                    by += (t[0] == 1 || t[0] == 2) && t[2] == letter ? 1 : 0;
                }
                greatest = Math.max(greatest, by == 0 ? 99 : often / by + (often % by == 0 ? 0 : 1));
            }
            return greatest;
        }

        private int clashes(List<Integer> plan, List<Integer> order) {
            int n = state.letters.size();
            boolean[][] hairs = new boolean[n][200];
            for (int k = 0; k < order.size(); k++) {
                for (int p = 0; p < n; p++) {
                    if ((plan.get(order.get(k)) >> p & 1) == 1) {
                        for (int w = 0; w < state.widths[state.letters.get(p)]; w++) {
                            hairs[p][left(p) + k * state.rules[1] + w] = true;
                        }
                    }
                }
            }
            int found = 0;
            for (int p = 0; p < n; p++) {
                for (int q = 0; q < p; q++) {
                    boolean over = false;
                    for (int h = 0; h < 200; h++) {
                        over |= hairs[p][h] && hairs[q][h];
                    }
                    found += over ? 1 : 0;
                }
            }
            return found;
        }

        private int order(int k) {
            List<Integer> plan = plan();
            if (plan == null) {
                return -4;
            }
            if (plan.size() > 6) {
                return -3;
            }
            if (k >= plan.size()) {
                return -4;
            }
            List<List<Integer>> all = new ArrayList<>();
            allOrders(plan.size(), new ArrayList<>(), all);
            if (k == -1) {
                return clashes(plan, all.get(0));
            }
            int least = Integer.MAX_VALUE;
            List<Integer> best = null;
            for (List<Integer> order : all) {
                int c = clashes(plan, order);
                if (c < least) {
                    least = c;
                    best = order;
                }
            }
            return k == -2 ? least : best.get(k);
        }

        private static void allOrders(int n, List<Integer> begun, List<List<Integer>> all) {
            if (begun.size() == n) {
                all.add(new ArrayList<>(begun));
                return;
            }
            for (int i = 0; i < n; i++) {
                if (!begun.contains(i)) {
                    begun.add(i);
                    allOrders(n, begun, all);
                    begun.remove(begun.size() - 1);
                }
            }
        }

        private int make(int n) {
            List<Integer> plan = plan();
            if (plan == null) {
                return -4;
            }
            int lots = 0;
            for (int left = n; left > 0; left -= state.rules[2]) {
                lots++;
            }
            int[] worn = new int[10];
            for (int pull : plan) {
                int[] way = leastWay(pull);
                for (int t = 0; t < state.types.size(); t++) {
                    boolean used = false;
                    for (int by : way) {
                        used |= by == t;
                    }
                    worn[t] += used ? n : 0;
                }
            }
            for (int t = state.types.size() - 1; t >= 0; t--) {
                int[] type = state.types.get(t);
                if (type[0] == 3) {
                    type[2] -= worn[t];
                    if (type[2] <= 0) {
                        state.types.remove(t);
                    }
                }
            }
            return plan.size() * lots;
        }

        // ---- texts, jobs

        /** Asks for a text by putting it in the line's place for a while. */
        private int fewestFor(int text, int without) {
            State real = state;
            state = real.copied();
            state.letters = real.texts.get(text).letters;
            state.blankAhead = real.texts.get(text).blankAhead;
            if (without >= 0) {
                state.types.remove(without);
            }
            int answer = fewest();
            state = real;
            return answer;
        }

        private int answerTexts(int[] a) {
            switch (a[0]) {
                case 19:
                    if (a[1] < 0 || a[1] > 3) {
                        return -1;
                    }
                    if (state.letters.isEmpty()) {
                        return -2;
                    }
                    if (state.texts.size() == 8) {
                        return -3;
                    }
                    state.texts.add(state.copied());
                    state.senses.add(a[1]);
                    return state.texts.size() - 1;
                case 20:
                    return a[1] < 0 || a[1] >= state.texts.size() ? -1 : fewestFor(a[1], -1);
                case 21: {
                    if (!isType(a[1])) {
                        return -1;
                    }
                    int set = 0;
                    for (int i = 0; i < state.texts.size(); i++) {
                        set |= fewestFor(i, -1) > 0 && fewestFor(i, a[1]) < 0 ? 1 << i : 0;
                    }
                    return set;
                }
                case 22:
                    return a[1] < 0 || a[1] > 3 ? -1 : said(a[1]);
                case 23:
                    if (a[1] < 1 || a[1] > 24 || a[2] < 1 || a[2] > 200) {
                        return -1;
                    }
                    if (state.jobs.size() == 8) {
                        return -3;
                    }
                    state.jobs.add(new int[] {a[1], a[2]});
                    return state.jobs.size() - 1;
                case 24:
                    return done();
                case 25: {
                    int gone = state.texts.size() + state.jobs.size();
                    state.texts.clear();
                    state.senses.clear();
                    state.jobs.clear();
                    return gone;
                }
                case 26:
                    image = state.copied();
                    return 1;
                default:
                    if (image == null) {
                        return -4;
                    }
                    state = image.copied();
                    return 1;
            }
        }

        private int said(int sense) {
            int best = -4;
            for (int i = 0; i < state.texts.size(); i++) {
                if (state.senses.get(i) == sense && fewestFor(i, -1) > 0
                        && (best < 0 || fewestFor(i, -1) < fewestFor(best, -1))) {
                    best = i;
                }
            }
            return best;
        }

        private int done() {
            int best = 0;
            for (int set = 1; set < 1 << state.jobs.size(); set++) {
                if (countOf(set) > countOf(best) && inTime(set, 0)) {
                    best = set;
                }
            }
            return best;
        }

        /** Tries every row of the jobs. */
        private boolean inTime(int set, int hour) {
            if (set == 0) {
                return true;
            }
            for (int j = 0; j < state.jobs.size(); j++) {
                if ((set >> j & 1) == 1) {
                    int end = hour + state.jobs.get(j)[0];
                    if (end <= state.jobs.get(j)[1] && inTime(set & ~(1 << j), end)) {
                        return true;
                    }
                }
            }
            return false;
        }

        // ---- sheets

        private boolean isSheet(int s) {
            return s >= 0 && s <= 3;
        }

        private boolean inRow(int s, long first, long n) {
            return first >= 0 && n >= 0 && first + n <= rows[s].length;
        }

        private int answerSheets(int[] a) {
            boolean sheet = isSheet(a[1]);
            boolean lane = a[2] >= 0 && a[2] <= 2;
            switch (a[0]) {
                case 28:
                    if (!sheet || !lane) {
                        return -1;
                    }
                    if (rows[a[1]] == null) {
                        return -11;
                    }
                    if (lanes[a[1]] != a[2]) {
                        return -12;
                    }
                    if (!inRow(a[1], a[3], state.letters.size())) {
                        return -13;
                    }
                    return state.letters.isEmpty() || state.rules[1] == 0 ? -2 : leaf(a[1], a[3]);
                case 29:
                    return alike(a);
                case 30:
                    if (!sheet || !lane || a[3] > 24) {
                        return -1;
                    }
                    if (a[3] < 0) {
                        return -14;
                    }
                    rows[a[1]] = new int[a[3]];
                    lanes[a[1]] = a[2];
                    return a[3];
                case 31: {
                    if (!sheet) {
                        return -1;
                    }
                    if (rows[a[1]] == null) {
                        return -11;
                    }
                    int had = rows[a[1]].length;
                    rows[a[1]] = null;
                    return had;
                }
                case 32:
                    if (!sheet || !lane) {
                        return -1;
                    }
                    if (rows[a[1]] == null) {
                        return -11;
                    }
                    if (lanes[a[1]] != a[2]) {
                        return -12;
                    }
                    if (!inRow(a[1], a[3], 1)) {
                        return -13;
                    }
                    rows[a[1]][a[3]] = a[2] == 0 ? (byte) a[4] : a[2] == 1 ? (short) a[4] : a[4];
                    return 1;
                default: {
                    if (!sheet || !isSheet(a[3])) {
                        return -1;
                    }
                    if (rows[a[1]] == null || rows[a[3]] == null) {
                        return -11;
                    }
                    if (lanes[a[1]] != lanes[a[3]]) {
                        return -12;
                    }
                    if (!inRow(a[1], a[2], a[5]) || !inRow(a[3], a[4], a[5])) {
                        return -13;
                    }
                    int[] taken = Arrays.copyOfRange(rows[a[1]], a[2], a[2] + a[5]);
                    for (int i = 0; i < taken.length; i++) {
                        rows[a[3]][a[4] + i] = taken[i];
                    }
                    return a[5];
                }
            }
        }

        private int leaf(int s, int first) {
            int n = state.letters.size();
            int inked = 0;
            int pulls = 0;
            while (pulls < n) {
                int set = 0;
                for (int p = 0; p < n; p++) {
                    set |= rows[s][first + p] == left(p) + pulls * state.rules[1] ? 1 << p : 0;
                }
                if (set == 0) {
                    break;
                }
                if (leastWay(set) == null) {
                    return -4;
                }
                inked |= set;
                pulls++;
            }
            return inked == (1 << n) - 1 ? pulls : -4;
        }

        private int alike(int[] a) {
            if (!isSheet(a[1]) || !isSheet(a[2]) || a[3] < 1 || a[3] > 24 || a[4] < 0 || a[4] > 1) {
                return -1;
            }
            if (rows[a[1]] == null || rows[a[2]] == null) {
                return -11;
            }
            if (lanes[a[1]] != lanes[a[2]]) {
                return -12;
            }
            if (!inRow(a[1], 0, a[3]) || !inRow(a[2], 0, a[3])) {
                return -13;
            }
            int above = 0;
            for (int i = 0; i < a[3]; i++) {
                above += rows[a[1]][i] == rows[a[2]][i] ? 1 : 0;
            }
            int below = a[3];
            for (int d = 24; d > 1; d--) {
                if (above % d == 0 && below % d == 0) {
                    above /= d;
                    below /= d;
                }
            }
            return a[4] == 0 ? above : below;
        }
    }
}
