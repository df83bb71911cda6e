import java.util.Arrays;

/** A press with few types: lines are pulled several times, each time with other letters. */
public final class FewTypes {
    public static final int BAD = -1, NOT = -2, FULL = -3, NONE = -4, NULL = -11, CAST = -12, INDEX = -13, SIZE = -14;

    private static final int LETTERS = 12, WIDEST = 4, FIRST_WIDTH = 2, BLANK_WIDTH = 2;
    private static final int PLAIN = 0, TURNED = 1, JOINED = 2, SOAP = 3, NO_KIND = -1;
    private static final int MOST_TYPES = 10, MOST_PLACES = 10, MOST_WEAR = 9;
    private static final int WEDGES = 0, CREEP = 1, DAMP = 2, RULES = 3;
    private static final int[] RULE_LEAST = {0, 0, 1}, RULE_MOST = {1, 3, 9}, RULE_FIRST = {0, 0, 4};
    private static final int MOST_TEXTS = 8, SENSES = 4, MOST_JOBS = 8, MOST_HOURS = 24, LAST_HOUR = 200;
    private static final int MOST_MADE = 99, MOST_ORDERED = 6, AS_PLANNED = -1, BEST_CLASHES = -2, UNPRINTED = 99;
    private static final int TAPE_LENGTH = 60, LOWEST_BYTE = 32, HIGHEST_BYTE = 126, END = -1, FIRST_FAULT = -20;
    private static final int SHEETS = 4, BYTES = 0, SHORTS = 1, LANES = 3, MOST_ITEMS = 24;
    private static final int THE_LINE = MOST_TEXTS, UNKNOWN = 0, NO_TYPE = -1;

    private final Shop now = new Shop();
    private final Shop kept = new Shop();
    private boolean hasImage = false;
    private final Tape tape = new Tape();
    private final Press press = new Press();
    private final Orders orders = new Orders();
    private final Line readLine = new Line();
    private final Case readCase = new Case();
    /** FEWEST of each text and, last, of the line, so that a row of calls needs only one search. */
    private final int[] pullsKept = new int[MOST_TEXTS + 1];
    private final int[] planSets = new int[MOST_PLACES];
    private final int[] chosen = new int[MOST_PLACES];
    private final int[] leafSets = new int[MOST_PLACES];
    private final Sheet[] sheets = new Sheet[SHEETS];

    public FewTypes() {
        for (int i = 0; i < SHEETS; i++) {
            sheets[i] = new Sheet();
        }
    }

    // ---- 1 types, lines

    public int cast(int kind, int letter, int more) {
        if (!Case.fits(kind, letter, more)) {
            return BAD;
        }
        if (now.types.size >= MOST_TYPES) {
            return FULL;
        }
        now.types.add(kind, letter, more);
        forgetPulls();
        return now.types.size - 1;
    }

    public int told(int type, int what) {
        if (!now.types.has(type)) {
            return BAD;
        }
        switch (what) {
            case 0:
                return now.types.kinds[type];
            case 1:
                return now.types.letters[type];
            case 2:
                return now.types.mores[type];
            default:
                return BAD;
        }
    }

    public int lose(int type) {
        if (!now.types.has(type)) {
            return BAD;
        }
        now.types.remove(type);
        forgetPulls();
        return now.types.size;
    }

    public int width(int letter, int v) {
        if (!isLetter(letter) || v < 1 || v > WIDEST) {
            return BAD;
        }
        int was = now.widths[letter];
        now.widths[letter] = v;
        return was;
    }

    public int rule(int what, int v) {
        if (what < 0 || what >= RULES || v < RULE_LEAST[what] || v > RULE_MOST[what]) {
            return BAD;
        }
        int was = now.rules[what];
        now.rules[what] = v;
        forgetPulls();
        return was;
    }

    public int type(long w, int n) {
        if (n < 1 || n > 8 || !Tape.takes(w, n)) {
            return BAD;
        }
        if (tape.size + n > TAPE_LENGTH) {
            return FULL;
        }
        tape.add(w, n);
        return tape.size;
    }

    public int line() {
        int answer = tape.readLine(readLine);
        tape.size = 0;
        if (answer > 0) {
            now.told.take(readLine);
            pullsKept[THE_LINE] = UNKNOWN;
        }
        return answer;
    }

    public int types() {
        int answer = tape.readCase(readCase);
        tape.size = 0;
        if (answer > 0) {
            now.types.take(readCase);
            forgetPulls();
        }
        return answer;
    }

    public int place(int place, int what) {
        if (!now.told.has(place)) {
            return BAD;
        }
        switch (what) {
            case 0:
                return now.told.letters[place];
            case 1:
                return now.told.left(place, now.widths);
            case 2:
                return now.told.besideNext(place) ? 1 : 0;
            default:
                return BAD;
        }
    }

    public int count(int what) {
        switch (what) {
            case 0:
                return now.types.size;
            case 1:
                return now.told.size;
            case 2:
                return now.told.hairs(now.widths);
            case 3:
                return now.textCount;
            case 4:
                return now.jobs.size;
            default:
                return BAD;
        }
    }

    // ---- 2 pulls

    public int can(int set) {
        if (!isSetOfPlaces(set)) {
            return BAD;
        }
        lockLine();
        return press.inks(set) ? 1 : 0;
    }

    public int by(int set, int place) {
        if (!isSetOfPlaces(set) || !now.told.has(place) || !inSet(set, place)) {
            return BAD;
        }
        lockLine();
        return press.findLeastWay(set, chosen) ? chosen[place] : NONE;
    }

    public int fewest() {
        return pullsFor(THE_LINE);
    }

    public int plan(int k) {
        if (k < 0 || k >= MOST_PLACES) {
            return BAD;
        }
        int pulls = pullsFor(THE_LINE);
        if (pulls < 0) {
            return pulls;
        }
        return k < pulls ? planSets[k] : NONE;
    }

    public int bound() {
        if (now.told.size == 0) {
            return NOT;
        }
        int greatest = 0;
        for (int letter = 0; letter < LETTERS; letter++) {
            int often = now.told.howOften(letter);
            if (often > 0) {
                int printers = now.types.printers(letter);
                greatest = Math.max(greatest, printers == 0 ? UNPRINTED : cutUp(often, printers));
            }
        }
        return greatest;
    }

    public int order(int k) {
        if (k < BEST_CLASHES || k >= MOST_PLACES) {
            return BAD;
        }
        int pulls = pullsFor(THE_LINE);
        if (pulls < 0) {
            return pulls;
        }
        if (pulls > MOST_ORDERED) {
            return FULL;
        }
        if (k >= pulls) {
            return NONE;
        }
        orders.weigh(now, planSets, pulls);
        if (k == AS_PLANNED) {
            return orders.clashesAsPlanned();
        }
        orders.findBest();
        return k == BEST_CLASHES ? orders.fewestClashes : orders.best[k];
    }

    public int make(int n) {
        if (n < 1 || n > MOST_MADE) {
            return BAD;
        }
        int pulls = pullsFor(THE_LINE);
        if (pulls < 0) {
            return pulls;
        }
        int formes = pulls * cutUp(n, now.rules[DAMP]);
        wearSoap(pulls, n);
        return formes;
    }

    // ---- 3 texts, leaves, jobs

    public int text(int sense) {
        if (!isSense(sense)) {
            return BAD;
        }
        if (now.told.size == 0) {
            return NOT;
        }
        if (now.textCount >= MOST_TEXTS) {
            return FULL;
        }
        int number = now.textCount;
        now.texts[number].take(now.told);
        now.senses[number] = sense;
        now.textCount = number + 1;
        pullsKept[number] = UNKNOWN;
        return number;
    }

    public int needs(int text) {
        return now.hasText(text) ? pullsFor(text) : BAD;
    }

    public int lost(int type) {
        if (!now.types.has(type)) {
            return BAD;
        }
        int set = 0;
        for (int i = 0; i < now.textCount; i++) {
            if (now.texts[i].isSayable(now.types, NO_TYPE) && !now.texts[i].isSayable(now.types, type)) {
                set |= 1 << i;
            }
        }
        return set;
    }

    public int said(int sense) {
        if (!isSense(sense)) {
            return BAD;
        }
        int first = NONE;
        int least = MOST_PLACES + 1;
        for (int i = 0; i < now.textCount; i++) {
            if (now.senses[i] == sense) {
                int pulls = pullsFor(i);
                if (pulls > 0 && pulls < least) {
                    least = pulls;
                    first = i;
                }
            }
        }
        return first;
    }

    public int job(int hours, int due) {
        if (hours < 1 || hours > MOST_HOURS || due < 1 || due > LAST_HOUR) {
            return BAD;
        }
        if (now.jobs.size >= MOST_JOBS) {
            return FULL;
        }
        now.jobs.add(hours, due);
        return now.jobs.size - 1;
    }

    public int done() {
        return now.jobs.mostInTime();
    }

    public int clear() {
        int gone = now.textCount + now.jobs.size;
        now.textCount = 0;
        now.jobs.size = 0;
        forgetPulls();
        return gone;
    }

    public int image() {
        kept.take(now);
        hasImage = true;
        return 1;
    }

    public int restore() {
        if (!hasImage) {
            return NONE;
        }
        now.take(kept);
        forgetPulls();
        return 1;
    }

    // ---- 4 sheets

    public int leaf(int sheet, int lane, int i) {
        int refused = refusal(sheet, lane, i, now.told.size);
        if (refused < 0) {
            return refused;
        }
        if (now.told.size == 0 || now.rules[CREEP] == 0) {
            return NOT;
        }
        return sortByPull(sheets[sheet], i) ? pullsOfLeaf() : NONE;
    }

    public int alike(int sheet, int other, int n, int part) {
        if (!isSheet(sheet) || !isSheet(other) || n < 1 || n > MOST_ITEMS || part < 0 || part > 1) {
            return BAD;
        }
        Sheet one = sheets[sheet];
        Sheet two = sheets[other];
        int refused = refusalOfTwo(one, two);
        if (refused < 0) {
            return refused;
        }
        if (!one.holds(0, n) || !two.holds(0, n)) {
            return INDEX;
        }
        int same = 0;
        for (int i = 0; i < n; i++) {
            if (one.items[i] == two.items[i]) {
                same++;
            }
        }
        return (part == 0 ? same : n) / commonDivisor(same, n);
    }

    public int sheet(int sheet, int lane, int n) {
        if (!isSheet(sheet) || !isLane(lane) || n > MOST_ITEMS) {
            return BAD;
        }
        if (n < 0) {
            return SIZE;
        }
        sheets[sheet].renew(lane, n);
        return n;
    }

    public int drop(int sheet) {
        if (!isSheet(sheet)) {
            return BAD;
        }
        if (!sheets[sheet].isThere) {
            return NULL;
        }
        sheets[sheet].isThere = false;
        return sheets[sheet].size;
    }

    public int item(int sheet, int lane, int i, int v) {
        int refused = refusal(sheet, lane, i, 1);
        if (refused < 0) {
            return refused;
        }
        sheets[sheet].put(i, v);
        return 1;
    }

    public int copy(int from, int i, int to, int j, int n) {
        if (!isSheet(from) || !isSheet(to)) {
            return BAD;
        }
        Sheet source = sheets[from];
        Sheet target = sheets[to];
        int refused = refusalOfTwo(source, target);
        if (refused < 0) {
            return refused;
        }
        if (!source.holds(i, n) || !target.holds(j, n)) {
            return INDEX;
        }
        System.arraycopy(source.items, i, target.items, j, n);
        return n;
    }

    // ---- what the calls share

    private static boolean isLetter(int letter) {
        return letter >= 0 && letter < LETTERS;
    }

    private static boolean isSense(int sense) {
        return sense >= 0 && sense < SENSES;
    }

    private static boolean isSheet(int sheet) {
        return sheet >= 0 && sheet < SHEETS;
    }

    private static boolean isLane(int lane) {
        return lane >= 0 && lane < LANES;
    }

    private static boolean inSet(int set, int member) {
        return (set >> member & 1) != 0;
    }

    private static int cutUp(int number, int parts) {
        return parts < 1 ? 0 : (number + parts - 1) / parts;
    }

    private static int commonDivisor(int above, int below) {
        for (int divisor = below; divisor > 1; divisor--) {
            if (above % divisor == 0 && below % divisor == 0) {
                return divisor;
            }
        }
        return 1;
    }

    private boolean isSetOfPlaces(int set) {
        return set > 0 && set < 1 << now.told.size;
    }

    private void forgetPulls() {
        Arrays.fill(pullsKept, UNKNOWN);
    }

    private void lockLine() {
        press.lock(now.told, now.types, now.rules[WEDGES] == 1);
    }

    /** FEWEST of a text or of the line, or NOT, NONE; for the line the plan is found, too. */
    private int pullsFor(int which) {
        Line wanted = which == THE_LINE ? now.told : now.texts[which];
        if (wanted.size == 0) {
            return NOT;
        }
        if (pullsKept[which] == UNKNOWN) {
            pullsKept[which] = NONE;
            if (wanted.isSayable(now.types, NO_TYPE)) {
                press.lock(wanted, now.types, now.rules[WEDGES] == 1);
                pullsKept[which] = press.solve();
                if (which == THE_LINE) {
                    press.findPlan(planSets);
                }
            }
        }
        return pullsKept[which];
    }

    /** Worn off soap goes only when all pulls are through, since the plan is one for all sheets. */
    private void wearSoap(int pulls, int n) {
        lockLine();
        for (int k = 0; k < pulls && k < MOST_PLACES; k++) {
            if (press.findLeastWay(planSets[k], chosen)) {
                wearByPull(planSets[k], n);
            }
        }
        for (int type = now.types.size - 1; type >= 0; type--) {
            if (now.types.kinds[type] == SOAP && now.types.mores[type] <= 0) {
                now.types.remove(type);
                forgetPulls();
            }
        }
    }

    /** Soap prints one place of a pull at most, so each place wears a type of its own. */
    private void wearByPull(int set, int n) {
        for (int place = 0; place < now.told.size; place++) {
            if (inSet(set, place)) {
                int type = chosen[place];
                if (now.types.has(type) && now.types.kinds[type] == SOAP) {
                    now.types.mores[type] -= n;
                }
            }
        }
    }

    private int refusal(int sheet, int lane, int i, int n) {
        if (!isSheet(sheet) || !isLane(lane)) {
            return BAD;
        }
        Sheet row = sheets[sheet];
        if (!row.isThere) {
            return NULL;
        }
        if (row.lane != lane) {
            return CAST;
        }
        return row.holds(i, n) ? 0 : INDEX;
    }

    private static int refusalOfTwo(Sheet one, Sheet two) {
        if (!one.isThere || !two.isThere) {
            return NULL;
        }
        return one.lane == two.lane ? 0 : CAST;
    }

    /** Puts each place into the set of its pull; false if some item is no number of creeps from its left. */
    private boolean sortByPull(Sheet row, int first) {
        int creep = now.rules[CREEP];
        int places = now.told.size;
        if (creep < 1 || !row.holds(first, places)) {
            return false;
        }
        Arrays.fill(leafSets, 0);
        for (int place = 0; place < places; place++) {
            long crept = (long) row.items[first + place] - now.told.left(place, now.widths);
            // a number beyond the places leaves a gap below it
            if (crept < 0 || crept % creep != 0 || crept / creep >= places) {
                return false;
            }
            leafSets[(int) (crept / creep)] |= 1 << place;
        }
        return true;
    }

    private int pullsOfLeaf() {
        lockLine();
        int pulls = 0;
        int inked = 0;
        while (pulls < MOST_PLACES && leafSets[pulls] != 0) {
            if (!press.inks(leafSets[pulls])) {
                return NONE;
            }
            inked |= leafSets[pulls];
            pulls++;
        }
        return inked == (1 << now.told.size) - 1 ? pulls : NONE;
    }

    /** The types that are there, in their order. */
    private static final class Case {
        final int[] kinds = new int[MOST_TYPES];
        final int[] letters = new int[MOST_TYPES];
        final int[] mores = new int[MOST_TYPES];
        int size = 0;

        static boolean fits(int kind, int letter, int more) {
            if (!isLetter(letter)) {
                return false;
            }
            switch (kind) {
                case PLAIN:
                    return more == 0;
                case TURNED:
                    return isLetter(more) && more != letter;
                case JOINED:
                    return isLetter(more);
                case SOAP:
                    return more >= 1 && more <= MOST_WEAR;
                default:
                    return false;
            }
        }

        boolean has(int type) {
            return type >= 0 && type < size;
        }

        void add(int kind, int letter, int more) {
            if (size < MOST_TYPES) {
                kinds[size] = kind;
                letters[size] = letter;
                mores[size] = more;
                size++;
            }
        }

        void remove(int type) {
            if (has(type)) {
                for (int i = type; i < size - 1; i++) {
                    kinds[i] = kinds[i + 1];
                    letters[i] = letters[i + 1];
                    mores[i] = mores[i + 1];
                }
                size--;
            }
        }

        void take(Case other) {
            System.arraycopy(other.kinds, 0, kinds, 0, MOST_TYPES);
            System.arraycopy(other.letters, 0, letters, 0, MOST_TYPES);
            System.arraycopy(other.mores, 0, mores, 0, MOST_TYPES);
            size = other.size;
        }

        /** Whether a type prints a letter alone. */
        boolean prints(int type, int letter) {
            if (kinds[type] == JOINED) {
                return false;
            }
            return letters[type] == letter || kinds[type] == TURNED && mores[type] == letter;
        }

        boolean joins(int type, int first, int second) {
            return kinds[type] == JOINED && letters[type] == first && mores[type] == second;
        }

        boolean somePrints(int letter, int without) {
            for (int type = 0; type < size; type++) {
                if (type != without && prints(type, letter)) {
                    return true;
                }
            }
            return false;
        }

        boolean someJoins(int first, int second, int without) {
            for (int type = 0; type < size; type++) {
                if (type != without && joins(type, first, second)) {
                    return true;
                }
            }
            return false;
        }

        /** How many types print a letter, as BOUND counts them. */
        int printers(int letter) {
            int found = 0;
            for (int type = 0; type < size; type++) {
                if (letters[type] == letter) {
                    found++;
                }
                if ((kinds[type] == TURNED || kinds[type] == JOINED) && mores[type] == letter) {
                    found++;
                }
            }
            return found;
        }
    }

    /** A row of letters; none is no line. */
    private static final class Line {
        final int[] letters = new int[MOST_PLACES];
        int size = 0;
        /** The places, as a set, that are beside the next one. */
        int besides = 0;

        boolean has(int place) {
            return place >= 0 && place < size;
        }

        void empty() {
            size = 0;
            besides = 0;
        }

        void add(int letter, boolean behindBlank) {
            if (size < MOST_PLACES) {
                if (size > 0 && !behindBlank) {
                    besides |= 1 << (size - 1);
                }
                letters[size] = letter;
                size++;
            }
        }

        void take(Line other) {
            System.arraycopy(other.letters, 0, letters, 0, MOST_PLACES);
            size = other.size;
            besides = other.besides;
        }

        boolean besideNext(int place) {
            return inSet(besides, place);
        }

        int left(int place, int[] widths) {
            int hairs = 0;
            for (int i = 0; i < place && i < size; i++) {
                hairs += widths[letters[i]] + (besideNext(i) ? 0 : BLANK_WIDTH);
            }
            return hairs;
        }

        int hairs(int[] widths) {
            return size == 0 ? 0 : left(size - 1, widths) + widths[letters[size - 1]];
        }

        int howOften(int letter) {
            int found = 0;
            for (int i = 0; i < size; i++) {
                if (letters[i] == letter) {
                    found++;
                }
            }
            return found;
        }

        /**
         * Whether there are pulls for it at all, without one type (or none): each place alone and each
         * joined pair could be a pull of its own, so it is enough that such pieces make up the line.
         */
        boolean isSayable(Case types, int without) {
            boolean beforeLast = false;
            boolean before = true;
            for (int i = 0; i < size; i++) {
                boolean alone = before && types.somePrints(letters[i], without);
                boolean joined = beforeLast && besideNext(i - 1)
                        && types.someJoins(letters[i - 1], letters[i], without);
                beforeLast = before;
                before = alone || joined;
            }
            return before;
        }
    }

    /** The jobs, as they came. */
    private static final class Jobs {
        final int[] hours = new int[MOST_JOBS];
        final int[] dues = new int[MOST_JOBS];
        final int[] byDue = new int[MOST_JOBS];
        int size = 0;

        void add(int hour, int due) {
            if (size < MOST_JOBS) {
                hours[size] = hour;
                dues[size] = due;
                size++;
            }
        }

        void take(Jobs other) {
            System.arraycopy(other.hours, 0, hours, 0, MOST_JOBS);
            System.arraycopy(other.dues, 0, dues, 0, MOST_JOBS);
            size = other.size;
        }

        int mostInTime() {
            sortByDue();
            int best = 0;
            for (int set = 1; set < 1 << size; set++) {
                if (Integer.bitCount(set) > Integer.bitCount(best) && isInTime(set)) {
                    best = set;
                }
            }
            return best;
        }

        private void sortByDue() {
            for (int job = 0; job < size; job++) {
                int at = job;
                while (at > 0 && dues[byDue[at - 1]] > dues[job]) {
                    byDue[at] = byDue[at - 1];
                    at--;
                }
                byDue[at] = job;
            }
        }

        /** If any row of these jobs is in time, the row by what is due first is. */
        private boolean isInTime(int set) {
            int hour = 0;
            for (int i = 0; i < size; i++) {
                int job = byDue[i];
                if (inSet(set, job)) {
                    hour += hours[job];
                    if (hour > dues[job]) {
                        return false;
                    }
                }
            }
            return true;
        }
    }

    /** All that an image keeps. */
    private static final class Shop {
        final Case types = new Case();
        final Line told = new Line();
        final int[] widths = new int[LETTERS];
        final int[] rules = new int[RULES];
        final Line[] texts = new Line[MOST_TEXTS];
        final int[] senses = new int[MOST_TEXTS];
        int textCount = 0;
        final Jobs jobs = new Jobs();

        Shop() {
            Arrays.fill(widths, FIRST_WIDTH);
            System.arraycopy(RULE_FIRST, 0, rules, 0, RULES);
            for (int i = 0; i < MOST_TEXTS; i++) {
                texts[i] = new Line();
            }
        }

        boolean hasText(int text) {
            return text >= 0 && text < textCount;
        }

        void take(Shop other) {
            types.take(other.types);
            told.take(other.told);
            System.arraycopy(other.widths, 0, widths, 0, LETTERS);
            System.arraycopy(other.rules, 0, rules, 0, RULES);
            for (int i = 0; i < MOST_TEXTS; i++) {
                texts[i].take(other.texts[i]);
            }
            System.arraycopy(other.senses, 0, senses, 0, MOST_TEXTS);
            textCount = other.textCount;
            jobs.take(other.jobs);
        }
    }

    /** The tape, and how lines and cases are read from it. */
    private static final class Tape {
        final int[] bytes = new int[TAPE_LENGTH];
        int size = 0;
        private int at = 0;

        static boolean takes(long w, int n) {
            for (int i = 0; i < n; i++) {
                int sign = byteOf(w, i);
                if (sign < LOWEST_BYTE || sign > HIGHEST_BYTE) {
                    return false;
                }
            }
            return true;
        }

        private static int byteOf(long w, int i) {
            return (int) (w >> 8 * i & 255);
        }

        void add(long w, int n) {
            for (int i = n - 1; i >= 0; i--) {
                if (size < TAPE_LENGTH) {
                    bytes[size] = byteOf(w, i);
                    size++;
                }
            }
        }

        /** How many places it has, or the fault. */
        int readLine(Line into) {
            at = 0;
            into.empty();
            boolean letterOnly = true;
            for (int i = 0; i <= size; i++) {
                int sign = nextSign();
                if (sign == END) {
                    return letterOnly ? fault() : into.size;
                }
                if (into.size >= MOST_PLACES) {
                    return fault();
                }
                if (isLetter(sign - 'a')) {
                    into.add(sign - 'a', letterOnly);
                    letterOnly = false;
                } else if (sign == '_' && !letterOnly) {
                    letterOnly = true;
                } else {
                    return fault();
                }
                at++;
            }
            return fault();
        }

        /** How many types it has, or the fault. */
        int readCase(Case into) {
            at = 0;
            into.size = 0;
            for (int i = 0; i <= size; i++) {
                if (!readType(into)) {
                    return fault();
                }
                int sign = nextSign();
                if (sign == END) {
                    return into.size;
                }
                if (sign != ',' || into.size >= MOST_TYPES) {
                    return fault();
                }
                at++;
            }
            return fault();
        }

        /** False leaves the tape at the byte that can't stand there. */
        private boolean readType(Case into) {
            int sign = nextSign();
            int kind = kindOf(sign);
            if (kind == NO_KIND) {
                return false;
            }
            at++;
            if (kind == PLAIN) {
                into.add(PLAIN, sign - 'a', 0);
                return true;
            }
            int letter = nextSign() - 'a';
            if (!isLetter(letter)) {
                return false;
            }
            at++;
            int more = nextSign() - (kind == SOAP ? '0' : 'a');
            if (!Case.fits(kind, letter, more)) {
                return false;
            }
            at++;
            into.add(kind, letter, more);
            return true;
        }

        private static int kindOf(int sign) {
            switch (sign) {
                case 't':
                    return TURNED;
                case 'n':
                    return JOINED;
                case 'm':
                    return SOAP;
                default:
                    return isLetter(sign - 'a') ? PLAIN : NO_KIND;
            }
        }

        private int nextSign() {
            while (at < size && bytes[at] == ' ') {
                at++;
            }
            return at < size ? bytes[at] : END;
        }

        private int fault() {
            return FIRST_FAULT - at;
        }
    }

    /**
     * The press with a line and types locked in it. Row p holds, for one set of places, every set of free
     * types by which the places from p on can be printed: a row is a table of 1024 bits, so that one type
     * is tried for all sets of free types by a few shifts. Only types that print some of the line count.
     */
    private static final class Press {
        private static final int WORDS = 16, NEVER = 99;
        /** The bits of a word whose numbers lack a power of two. */
        private static final long[] LACKING = {
            0x5555555555555555L, 0x3333333333333333L, 0x0F0F0F0F0F0F0F0FL,
            0x00FF00FF00FF00FFL, 0x0000FFFF0000FFFFL, 0x00000000FFFFFFFFL};

        private final int[] numbers = new int[MOST_TYPES];
        private final int[] alone = new int[MOST_PLACES];
        private final int[] joined = new int[MOST_PLACES];
        private final long[] rows = new long[(MOST_PLACES + 1) * WORDS];
        /** FEWEST for each set of places. */
        private final int[] least = new int[1 << MOST_PLACES];
        private int places = 0;
        private int besides = 0;
        private boolean wedges = false;
        private int useful = 0;
        private int words = 1;
        /** More places than these no pull inks. */
        private int capacity = 0;

        void lock(Line line, Case types, boolean withWedges) {
            places = line.size;
            besides = line.besides;
            wedges = withWedges;
            useful = 0;
            capacity = 0;
            Arrays.fill(alone, 0);
            Arrays.fill(joined, 0);
            for (int type = 0; type < types.size; type++) {
                if (lockType(line, types, type)) {
                    numbers[useful] = type;
                    useful++;
                    capacity += types.kinds[type] == JOINED ? 2 : 1;
                }
            }
            words = useful <= 6 ? 1 : 1 << (useful - 6);
            setRow(places, -1L);
        }

        private boolean lockType(Line line, Case types, int type) {
            boolean prints = false;
            for (int p = 0; p < places; p++) {
                if (types.prints(type, line.letters[p])) {
                    alone[p] |= 1 << useful;
                    prints = true;
                }
                if (p + 1 < places && line.besideNext(p) && types.joins(type, line.letters[p], line.letters[p + 1])) {
                    joined[p] |= 1 << useful;
                    prints = true;
                }
            }
            return prints;
        }

        /** Whether a pull can ink a set. */
        boolean inks(int set) {
            fillRows(set, places - 1);
            return isEnough(0, allUseful());
        }

        /** FEWEST for all places; NONE if there are no such pulls. */
        int solve() {
            int all = (1 << places) - 1;
            if (inks(all)) {
                least[all] = 1;
            } else {
                fillLeast(all);
            }
            return least[all] < NEVER ? least[all] : NONE;
        }

        private void fillLeast(int all) {
            fillRows(0, places - 1);
            least[0] = 0;
            for (int set = 1; set <= all; set++) {
                boolean once = false;
                if (Integer.bitCount(set) <= capacity) {
                    // the set before differs only up to the lowest place, so the rows behind it still hold
                    fillRows(set, lowestOf(set));
                    once = isEnough(0, allUseful());
                }
                least[set] = once ? 1 : leastApart(set);
            }
        }

        /** The first plan, by what solve() found. */
        void findPlan(int[] plan) {
            int rest = (1 << places) - 1;
            for (int k = 0; k < plan.length && rest != 0; k++) {
                plan[k] = firstPull(rest);
                rest &= ~plan[k];
            }
        }

        private int firstPull(int rest) {
            // solve() fills no other set, if one pull inks all
            if (least[rest] > 1) {
                for (int set = 1; set < rest; set++) {
                    if ((set & ~rest) == 0 && least[set] == 1 && least[rest ^ set] == least[rest] - 1) {
                        return set;
                    }
                }
            }
            return rest;
        }

        private int leastApart(int set) {
            int best = NEVER;
            int bound = Math.max(2, cutUp(Integer.bitCount(set), capacity));
            int others = set & (set - 1);
            // one pull inks the lowest place; what it leaves runs down through the sets of the others
            for (int left = others; left > 0 && best > bound; left = (left - 1) & others) {
                if (least[set ^ left] == 1 && least[left] + 1 < best) {
                    best = least[left] + 1;
                }
            }
            return best;
        }

        private int lowestOf(int set) {
            int place = 0;
            while (place < places - 1 && !inSet(set, place)) {
                place++;
            }
            return place;
        }

        /** The types, by number, that print the places of a set by the least way; false if it can't be. */
        boolean findLeastWay(int set, int[] typeOf) {
            if (!inks(set)) {
                return false;
            }
            int free = allUseful();
            for (int p = 0; p < places; p++) {
                if (inSet(set, p)) {
                    int type = leastType(set, p, free);
                    if (type == NO_TYPE) {
                        return false;
                    }
                    free &= ~(1 << type);
                    typeOf[p] = numbers[type];
                    if (inSet(joined[p], type) && p + 1 < places) {
                        p++;
                        typeOf[p] = numbers[type];
                    }
                }
            }
            return true;
        }

        private int leastType(int set, int p, int free) {
            int singles = mayPrintAlone(set, p);
            int pairs = mayPrintJoined(set, p);
            for (int type = 0; type < useful; type++) {
                if (inSet(free, type)) {
                    int others = free & ~(1 << type);
                    if (inSet(singles, type) && isEnough(p + 1, others)
                            || inSet(pairs, type) && isEnough(p + 2, others)) {
                        return type;
                    }
                }
            }
            return NO_TYPE;
        }

        private int allUseful() {
            return (1 << useful) - 1;
        }

        private boolean isEnough(int p, int free) {
            return (rows[p * WORDS + (free >> 6)] >>> (free & 63) & 1L) != 0;
        }

        /** Places of a set that are beside the next one of it. */
        private int pairsOf(int set) {
            return set & set >> 1 & besides;
        }

        /** Types that may print a place of a set alone; by wedges it has no next one beside it. */
        private int mayPrintAlone(int set, int p) {
            return wedges && inSet(pairsOf(set), p) ? 0 : alone[p];
        }

        /** Types that may print a place of a set and the next one; by wedges no third one is beside them. */
        private int mayPrintJoined(int set, int p) {
            int pairs = pairsOf(set);
            return !inSet(pairs, p) || wedges && inSet(pairs, p + 1) ? 0 : joined[p];
        }

        private void fillRows(int set, int from) {
            for (int p = from; p >= 0; p--) {
                if (inSet(set, p)) {
                    setRow(p, 0L);
                    addWays(p, p + 1, mayPrintAlone(set, p));
                    addWays(p, p + 2, mayPrintJoined(set, p));
                } else {
                    System.arraycopy(rows, (p + 1) * WORDS, rows, p * WORDS, words);
                }
            }
        }

        private void setRow(int p, long word) {
            for (int i = 0; i < words; i++) {
                rows[p * WORDS + i] = word;
            }
        }

        /** Free types are enough in row p, if one of them prints and the others are enough in the row behind. */
        private void addWays(int p, int behind, int printing) {
            int to = p * WORDS;
            int from = behind * WORDS;
            for (int type = 0; type < useful && printing >> type != 0; type++) {
                if ((printing >> type & 1) != 0) {
                    if (type < LACKING.length) {
                        for (int word = 0; word < words; word++) {
                            rows[to + word] |= (rows[from + word] & LACKING[type]) << (1 << type);
                        }
                    } else {
                        int step = 1 << (type - LACKING.length);
                        for (int word = step; word < words; word++) {
                            rows[to + word] |= (word & step) != 0 ? rows[from + word - step] : 0L;
                        }
                    }
                }
            }
        }
    }

    /** Orders of a plan's pulls. */
    private static final class Orders {
        private static final int BEYOND = 1000;

        /** Clashes of a pull with one that goes so many pulls later. */
        private final int[] clashes = new int[MOST_ORDERED * MOST_ORDERED * MOST_ORDERED];
        private final int[] tried = new int[MOST_ORDERED];
        final int[] best = new int[MOST_ORDERED];
        private int pulls = 0;
        int fewestClashes = 0;

        void weigh(Shop shop, int[] plan, int count) {
            pulls = Math.min(count, MOST_ORDERED);
            Arrays.fill(clashes, 0);
            for (int p = 0; p < shop.told.size; p++) {
                for (int q = p + 1; q < shop.told.size; q++) {
                    int first = pullOf(plan, p);
                    int second = pullOf(plan, q);
                    if (first != second) {
                        weighPair(shop, p, q, first, second);
                    }
                }
            }
        }

        private int pullOf(int[] plan, int place) {
            for (int k = 0; k < pulls - 1; k++) {
                if (inSet(plan[k], place)) {
                    return k;
                }
            }
            return pulls - 1;
        }

        /** Paper creeps one way: only the place ahead, if it is pulled later, comes into the one behind it. */
        private void weighPair(Shop shop, int ahead, int behind, int pullAhead, int pullBehind) {
            int start = shop.told.left(ahead, shop.widths);
            int end = start + shop.widths[shop.told.letters[ahead]];
            int otherStart = shop.told.left(behind, shop.widths);
            int otherEnd = otherStart + shop.widths[shop.told.letters[behind]];
            for (int later = 1; later < pulls; later++) {
                int crept = later * shop.rules[CREEP];
                if (start + crept < otherEnd && otherStart < end + crept) {
                    clashes[slot(pullBehind, pullAhead, later)]++;
                }
            }
        }

        private static int slot(int first, int second, int later) {
            return (first * MOST_ORDERED + second) * MOST_ORDERED + later;
        }

        int clashesAsPlanned() {
            int sum = 0;
            for (int at = 0; at < pulls; at++) {
                tried[at] = at;
                sum += clashesWithEarlier(at);
            }
            return sum;
        }

        void findBest() {
            fewestClashes = BEYOND;
            tryFrom(0, 0, 0);
        }

        /** Orders are tried from the first on, so that of like ones the first stays. */
        private void tryFrom(int at, int used, int sum) {
            if (sum >= fewestClashes) {
                return;
            }
            if (at >= pulls) {
                fewestClashes = sum;
                System.arraycopy(tried, 0, best, 0, pulls);
                return;
            }
            for (int pull = 0; pull < pulls; pull++) {
                if (!inSet(used, pull)) {
                    tried[at] = pull;
                    tryFrom(at + 1, used | 1 << pull, sum + clashesWithEarlier(at));
                }
            }
        }

        private int clashesWithEarlier(int at) {
            int sum = 0;
            for (int i = 0; i < at; i++) {
                sum += clashes[slot(tried[i], tried[at], at - i)];
            }
            return sum;
        }
    }

    /** A sheet: nothing, or a row of a lane. */
    private static final class Sheet {
        final int[] items = new int[MOST_ITEMS];
        int lane = BYTES;
        int size = 0;
        boolean isThere = false;

        void renew(int newLane, int n) {
            Arrays.fill(items, 0);
            lane = newLane;
            size = n;
            isThere = true;
        }

        boolean holds(int first, int n) {
            return first >= 0 && n >= 0 && n <= size && first <= size - n;
        }

        void put(int i, int v) {
            if (lane == BYTES) {
                items[i] = (byte) v;
            } else if (lane == SHORTS) {
                items[i] = (short) v;
            } else {
                items[i] = v;
            }
        }
    }
}
