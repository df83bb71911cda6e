import java.nio.charset.StandardCharsets;

/** For each promise of the document: ordinary inputs, the edges that it names, wrong inputs. */
public final class PromiseTests {
    private static final int BAD = -1, NOT = -2, FULL = -3, NONE = -4, NULL = -11, CAST = -12, INDEX = -13, SIZE = -14;
    private static final int LOWEST = Integer.MIN_VALUE, HIGHEST = Integer.MAX_VALUE;
    private static int wrong = 0;
    private static int asked = 0;

    public static void main(String[] args) {
        promise1NewObject();
        promise2Cast();
        promise3Told();
        promise4Lose();
        promise5Width();
        promise6Rule();
        promise7Type();
        promise8Line();
        promise9Types();
        promise10Place();
        promise11Count();
        promise12Can();
        promise12CanByWedges();
        promise13By();
        promise14Fewest();
        promise15Plan();
        promise16Bound();
        promise17Order();
        promise18Make();
        promise19Text();
        promise20Needs();
        promise21Lost();
        promise22Said();
        promise23Job();
        promise24Done();
        promise25Clear();
        promise26Image();
        promise27Restore();
        promise28Leaf();
        promise29Alike();
        promise30Sheet();
        promise31Drop();
        promise32Item();
        promise33Copy();
        answersAreFoundAnew();
        System.out.println(asked + " answers asked for, " + wrong + " not as due");
        if (wrong != 0) {
            System.exit(1);
        }
    }

    private static void due(String what, int want, int got) {
        asked++;
        if (got != want) {
            wrong++;
            System.out.println(what + " answered " + got + ", due is " + want);
        }
    }

    /** Puts a text on the tape, as many bytes at a time as a call takes. */
    private static int tape(FewTypes x, String text) {
        byte[] bytes = text.getBytes(StandardCharsets.ISO_8859_1);
        int answer = 0;
        for (int i = 0; i < bytes.length; i += 8) {
            int n = Math.min(8, bytes.length - i);
            long w = 0;
            for (int k = 0; k < n; k++) {
                w = w << 8 | bytes[i + k] & 255;
            }
            answer = x.type(w, n);
        }
        return answer;
    }

    private static int line(FewTypes x, String text) {
        tape(x, text);
        return x.line();
    }

    private static int types(FewTypes x, String text) {
        tape(x, text);
        return x.types();
    }

    private static FewTypes shop(String types, String line) {
        FewTypes x = new FewTypes();
        due("types " + types, types.split(",").length, types(x, types));
        due("line " + line, line.replace("_", "").length(), line(x, line));
        return x;
    }

    private static void promise1NewObject() {
        FewTypes x = new FewTypes();
        for (int what = 0; what < 5; what++) {
            due("1 count " + what, 0, x.count(what));
        }
        due("1 told", BAD, x.told(0, 0));
        due("1 place", BAD, x.place(0, 0));
        due("1 fewest", NOT, x.fewest());
        due("1 restore", NONE, x.restore());
        for (int letter = 0; letter < 12; letter++) {
            due("1 width", 2, x.width(letter, 2));
        }
        due("1 wedges", 0, x.rule(0, 0));
        due("1 creep", 0, x.rule(1, 0));
        due("1 damp", 4, x.rule(2, 4));
        for (int sheet = 0; sheet < 4; sheet++) {
            due("1 drop", NULL, x.drop(sheet));
        }
        due("1 empty tape", 1, x.type('a', 1));
    }

    private static void promise2Cast() {
        FewTypes x = new FewTypes();
        due("2 plain", 0, x.cast(0, 0, 0));
        due("2 turned", 1, x.cast(1, 11, 0));
        due("2 joined", 2, x.cast(2, 3, 3));
        due("2 joined unlike", 3, x.cast(2, 3, 11));
        due("2 soap", 4, x.cast(3, 5, 9));
        due("2 soap 1", 5, x.cast(3, 5, 1));
        int[][] bad = {{-1, 0, 0}, {4, 0, 0}, {0, -1, 0}, {0, 12, 0}, {0, 0, 1}, {0, 0, -1}, {1, 0, 0}, {1, 0, -1},
            {1, 0, 12}, {1, 12, 0}, {2, 0, -1}, {2, 0, 12}, {2, -1, 0}, {3, 0, 0}, {3, 0, 10}, {3, 12, 1},
            {LOWEST, 0, 0}, {HIGHEST, 0, 0}, {0, LOWEST, 0}, {1, 0, HIGHEST}};
        for (int[] b : bad) {
            due("2 bad " + b[0] + " " + b[1] + " " + b[2], BAD, x.cast(b[0], b[1], b[2]));
        }
        due("2 bad changes nothing", 6, x.count(0));
        for (int i = 6; i < 10; i++) {
            due("2 more", i, x.cast(0, i, 0));
        }
        due("2 full", FULL, x.cast(0, 0, 0));
        due("2 bad ahead of full", BAD, x.cast(0, 0, 1));
        due("2 ten", 10, x.count(0));
    }

    private static void promise3Told() {
        FewTypes x = new FewTypes();
        types(x, "c,tkl,nba,mf7");
        int[][] want = {{0, 2, 0}, {1, 10, 11}, {2, 1, 0}, {3, 5, 7}};
        for (int type = 0; type < 4; type++) {
            for (int what = 0; what < 3; what++) {
                due("3 told " + type + " " + what, want[type][what], x.told(type, what));
            }
            due("3 what", BAD, x.told(type, 3));
            due("3 what", BAD, x.told(type, -1));
        }
        due("3 type", BAD, x.told(4, 0));
        due("3 type", BAD, x.told(-1, 0));
        due("3 type", BAD, x.told(HIGHEST, 0));
        due("3 type", BAD, x.told(LOWEST, HIGHEST));
    }

    private static void promise4Lose() {
        FewTypes x = new FewTypes();
        types(x, "a,tbc,nde,mf3");
        due("4 bad", BAD, x.lose(4));
        due("4 bad", BAD, x.lose(-1));
        due("4 lose", 3, x.lose(1));
        due("4 one down", 2, x.told(1, 0));
        due("4 one down", 3, x.told(1, 1));
        due("4 one down", 4, x.told(1, 2));
        due("4 one down", 3, x.told(2, 0));
        due("4 last", 2, x.lose(2));
        due("4 first", 1, x.lose(0));
        due("4 left", 2, x.told(0, 0));
        due("4 none", 0, x.lose(0));
        due("4 bad", BAD, x.lose(0));
    }

    private static void promise5Width() {
        FewTypes x = new FewTypes();
        due("5 first", 2, x.width(0, 1));
        due("5 was", 1, x.width(0, 4));
        due("5 was", 4, x.width(0, 4));
        due("5 last letter", 2, x.width(11, 3));
        due("5 letter", BAD, x.width(12, 1));
        due("5 letter", BAD, x.width(-1, 1));
        due("5 narrow", BAD, x.width(0, 0));
        due("5 wide", BAD, x.width(0, 5));
        due("5 stays", 4, x.width(0, 1));
        line(x, "al");
        due("5 left", 1, x.place(1, 1));
        x.width(0, 4);
        due("5 left of a told line", 4, x.place(1, 1));
    }

    private static void promise6Rule() {
        FewTypes x = new FewTypes();
        int[] least = {0, 0, 1};
        int[] most = {1, 3, 9};
        int[] first = {0, 0, 4};
        for (int what = 0; what < 3; what++) {
            due("6 low", BAD, x.rule(what, least[what] - 1));
            due("6 high", BAD, x.rule(what, most[what] + 1));
            due("6 first", first[what], x.rule(what, most[what]));
            due("6 most", most[what], x.rule(what, least[what]));
            due("6 least", least[what], x.rule(what, least[what]));
        }
        due("6 what", BAD, x.rule(-1, 1));
        due("6 what", BAD, x.rule(3, 1));
        due("6 what", BAD, x.rule(LOWEST, 1));
        due("6 what", BAD, x.rule(HIGHEST, 1));
    }

    private static void promise7Type() {
        FewTypes x = new FewTypes();
        due("7 n 0", BAD, x.type(0x61, 0));
        due("7 n 9", BAD, x.type(0x6161616161616161L, 9));
        due("7 n below", BAD, x.type(0x61, -1));
        due("7 low byte", BAD, x.type(0x1F, 1));
        due("7 high byte", BAD, x.type(0x7F, 1));
        due("7 byte below 0", BAD, x.type(-1L, 1));
        due("7 a byte in it", BAD, x.type(0x611F62L, 3));
        due("7 byte 0", BAD, x.type(0x61L, 2));
        due("7 bytes above n are free", 1, x.type(0xFFFFFFFFFFFFFF61L, 1));
        due("7 more", 3, x.type(0x6263L, 2));
        due("7 line", 3, x.line());
        due("7 the highest first", 0, x.place(0, 0));
        due("7 the highest first", 1, x.place(1, 0));
        due("7 the highest first", 2, x.place(2, 0));
        due("7 edges", 2, x.type(0x207EL, 2));
        for (int i = 1; i <= 7; i++) {
            due("7 eight", 2 + 8 * i, x.type(0x6162636465666768L, 8));
        }
        due("7 full", FULL, x.type(0x616161L, 3));
        due("7 bad ahead of full", BAD, x.type(0x61611FL, 3));
        due("7 sixty", 60, x.type(0x6161L, 2));
        due("7 full", FULL, x.type(0x61L, 1));
        due("7 then", -21, x.line());
        due("7 empty", 1, x.type(0x61L, 1));
    }

    private static void promise8Line() {
        FewTypes x = new FewTypes();
        due("8 empty", -20, x.line());
        due("8 one", 1, line(x, "l"));
        due("8 letter", 11, x.place(0, 0));
        due("8 blanks", 3, line(x, " a b _ c "));
        due("8 beside", 1, x.place(0, 2));
        due("8 not beside", 0, x.place(1, 2));
        due("8 ten", 10, line(x, "a_b_c_d_e_f_g_h_i_j"));
        due("8 hairs", 38, x.count(2));
        String[] faults = {"_a", "a_", "a__b", "m", "A", "a,b", "a1", "   ", "a_  ", "  a  m", "abcdefghijk", "abcdefghij_",
            "abcdefghij  k", "abcdefghi_j_", "~"};
        int[] at = {0, 2, 2, 0, 0, 1, 1, 3, 4, 5, 10, 10, 12, 11, 0};
        for (int i = 0; i < faults.length; i++) {
            due("8 fault of '" + faults[i] + "'", -20 - at[i], line(x, faults[i]));
            due("8 told stays", 10, x.count(1));
            due("8 empty then", -20, x.line());
        }
        due("8 ten and blanks", 10, line(x, "abcdefghij  "));
    }

    private static void promise9Types() {
        FewTypes x = new FewTypes();
        due("9 empty", -20, x.types());
        due("9 kinds", 4, types(x, "l, t a b ,ncc,m d 9 "));
        int[][] want = {{0, 11, 0}, {1, 0, 1}, {2, 2, 2}, {3, 3, 9}};
        for (int i = 0; i < 12; i++) {
            due("9 told " + i, want[i / 3][i % 3], x.told(i / 3, i % 3));
        }
        String[] faults = {"", " ", ",", "a,", "a,,b", ",a", "ab", "m", "ma", "ma0", "mm1", "t", "ta", "taa", "tam", "t1a",
            "n", "na", "nam", "x", "_", "a,b;", "a, ta", "a,b,c,d,e,f,g,h,i,j,", "a,b,c,d,e,f,g,h,i,j,k", "ma9a", "t a a",
            "ma:", "o", "k "};
        int[] at = {0, 1, 0, 2, 2, 0, 1, 1, 2, 2, 1, 1, 2, 2, 2, 1,
            1, 2, 2, 0, 0, 3, 5, 19, 19, 3, 4,
            2, 0, -1};
        for (int i = 0; i < faults.length - 1; i++) {
            due("9 fault of '" + faults[i] + "'", -20 - at[i], types(x, faults[i]));
            due("9 told stay", 4, x.count(0));
            due("9 told stay", 11, x.told(0, 1));
            due("9 empty then", -20, x.types());
        }
        due("9 in place", 1, types(x, "k "));
        due("9 in place", 10, x.told(0, 1));
        due("9 ten", 10, types(x, "naa,tab,mc1,ncb,tde,mf2,nll,tkl,me3,a"));
        due("9 cast behind", FULL, x.cast(0, 0, 0));
    }

    private static void promise10Place() {
        FewTypes x = new FewTypes();
        due("10 no line", BAD, x.place(0, 0));
        line(x, "ab_ca");
        x.width(0, 4);
        x.width(1, 1);
        x.width(2, 3);
        int[][] want = {{0, 0, 1}, {1, 4, 0}, {2, 7, 1}, {0, 10, 0}};
        for (int i = 0; i < 12; i++) {
            due("10 place " + i / 3 + " " + i % 3, want[i / 3][i % 3], x.place(i / 3, i % 3));
        }
        due("10 place", BAD, x.place(4, 0));
        due("10 place", BAD, x.place(-1, 1));
        due("10 place", BAD, x.place(LOWEST, 2));
        due("10 what", BAD, x.place(0, 3));
        due("10 what", BAD, x.place(0, -1));
        line(x, "a");
        due("10 shorter", BAD, x.place(1, 0));
        due("10 one place", 0, x.place(0, 2));
    }

    private static void promise11Count() {
        FewTypes x = shop("a,b,c", "ab_c");
        x.width(2, 4);
        x.text(0);
        x.text(3);
        x.job(1, 1);
        int[] want = {3, 3, 10, 2, 1};
        for (int what = 0; what < 5; what++) {
            due("11 count " + what, want[what], x.count(what));
        }
        due("11 what", BAD, x.count(5));
        due("11 what", BAD, x.count(-1));
    }

    private static void promise12Can() {
        FewTypes x = new FewTypes();
        due("12 no line", BAD, x.can(1));
        x = shop("a,tab,nbc", "abc_bc");
        due("12 empty", BAD, x.can(0));
        due("12 above", BAD, x.can(32));
        due("12 below", BAD, x.can(-1));
        due("12 lowest", BAD, x.can(LOWEST));
        due("12 highest", BAD, x.can(HIGHEST));
        due("12 a", 1, x.can(1));
        due("12 b turned", 1, x.can(2));
        due("12 c alone", 0, x.can(4));
        due("12 bc joined", 1, x.can(6));
        due("12 abc", 1, x.can(7));
        due("12 joined only once", 0, x.can(30));
        due("12 other bc", 1, x.can(24));
        due("12 b, bc", 1, x.can(26));
        due("12 not over a blank", 0, shop("nab", "a_b").can(3));
        due("12 not turned round", 0, shop("nab", "ba").can(3));
        due("12 the same twice", 1, shop("naa", "aa").can(3));
        due("12 joined prints two", 0, shop("naa", "aa").can(1));
        due("12 soap", 1, shop("ma1", "a").can(1));
        due("12 each once", 0, shop("a", "aa").can(3));
        due("12 types change places", 1, shop("tab,a,tbc", "abc").can(7));
        due("12 too few", 0, shop("tab,tab,tab,tab,tab,tab,tab,tab,c,d", "aaaabbbbba").can(511));
        due("12 enough", 1, shop("tab,tab,tab,tab,tab,tab,tab,tab,c,d", "aaaabbbbba").can(255));
        due("12 all ten", 1, shop("a,b,c,d,e,f,g,h,i,j", "jihgfedcba").can(1023));
    }

    private static void promise12CanByWedges() {
        FewTypes x = shop("a,b,c,nab,ncd,nbc", "abc_abcd");
        x.rule(0, 1);
        due("12 one", 1, x.can(1));
        due("12 beside by two", 1, x.can(3));
        due("12 apart", 1, x.can(5));
        due("12 over a blank", 1, x.can(12));
        due("12 three", 0, x.can(7));
        due("12 pairs beside", 0, x.can(8 + 16 + 32 + 64));
        due("12 pairs apart", 1, x.can(2 + 4 + 8 + 16));
        due("12 pair, single", 1, x.can(3 + 8 + 32));
        due("12 pair beside single", 0, x.can(3 + 4));
        due("12 no joined type", 0, shopByWedges("a,b", "ab").can(3));
        due("12 blank between", 1, shopByWedges("a,b", "a_b").can(3));
        x.rule(0, 0);
        due("12 without wedges", 1, x.can(7));
    }

    private static FewTypes shopByWedges(String types, String line) {
        FewTypes x = shop(types, line);
        x.rule(0, 1);
        return x;
    }

    private static void promise13By() {
        FewTypes x = new FewTypes();
        due("13 no line", BAD, x.by(1, 0));
        x = shop("tab,a,nab,b", "ab_ab");
        due("13 empty", BAD, x.by(0, 0));
        due("13 above", BAD, x.by(16, 4));
        due("13 place", BAD, x.by(1, 4));
        due("13 place below", BAD, x.by(1, -1));
        due("13 place 32", BAD, x.by(1, 32));
        due("13 place not in it", BAD, x.by(1, 1));
        due("13 least", 0, x.by(1, 0));
        due("13 least", 0, x.by(3, 0));
        due("13 next", 3, x.by(3, 1));
        due("13 all", 0, x.by(15, 0));
        due("13 all", 3, x.by(15, 1));
        due("13 joined both", 2, x.by(15, 2));
        due("13 joined both", 2, x.by(15, 3));
        x.rule(0, 1);
        due("13 wedges", 2, x.by(3, 0));
        due("13 wedges", 2, x.by(3, 1));
        due("13 none", NONE, x.by(15, 0));
        x = shop("tab,a", "ab");
        due("13 left for the rest", 1, x.by(3, 0));
        due("13 left for the rest", 0, x.by(3, 1));
        x = shop("a", "ab");
        due("13 none", NONE, x.by(3, 0));
        due("13 bad ahead of none", BAD, x.by(2, 0));
    }

    private static void promise14Fewest() {
        FewTypes x = new FewTypes();
        due("14 no line", NOT, x.fewest());
        due("14 one", 1, shop("a", "a").fewest());
        due("14 no type", NONE, shop("b", "a").fewest());
        due("14 three", 3, shop("a,b", "aabba").fewest());
        due("14 turned", 2, shop("tab,b", "abb").fewest());
        due("14 joined", 1, shop("a,b,nab", "abab").fewest());
        due("14 joined only", 2, shop("nab", "abab").fewest());
        due("14 joined, one left", NONE, shop("nab", "aba").fewest());
        due("14 ten", 10, shop("a", "aaaaaaaaaa").fewest());
        due("14 wedges", 2, shopByWedges("a,b,c", "abc").fewest());
        due("14 wedges, blanks", 1, shopByWedges("a,b,c", "a_b_c").fewest());
        x = shop("a,b", "ab");
        due("14 first", 1, x.fewest());
        x.lose(1);
        due("14 lost", NONE, x.fewest());
        x.cast(1, 1, 0);
        due("14 cast", 1, x.fewest());
        x.rule(0, 1);
        due("14 rule", 2, x.fewest());
    }

    private static void promise15Plan() {
        FewTypes x = new FewTypes();
        due("15 no line", NOT, x.plan(0));
        due("15 bad first", BAD, x.plan(-1));
        due("15 bad first", BAD, x.plan(10));
        x = shop("a", "b");
        due("15 none", NONE, x.plan(0));
        due("15 bad", BAD, x.plan(10));
        x = shop("a,b", "aabb");
        due("15 first", 5, x.plan(0));
        due("15 second", 10, x.plan(1));
        due("15 no third", NONE, x.plan(2));
        due("15 no tenth", NONE, x.plan(9));
        x = shop("a,b,c", "aabc");
        due("15 the least set first", 1, x.plan(0));
        due("15 the rest", 14, x.plan(1));
        x = shop("a", "aaaaaaaaaa");
        for (int k = 0; k < 10; k++) {
            due("15 ten", 1 << k, x.plan(k));
        }
        x = shop("nab,a", "aba");
        due("15 joined", 7, x.plan(0));
        x = shopByWedges("a,b,c,nab", "abac");
        due("15 wedges", 4, x.plan(0));
        due("15 wedges", 11, x.plan(1));
    }

    private static void promise16Bound() {
        FewTypes x = new FewTypes();
        due("16 no line", NOT, x.bound());
        due("16 cut up", 3, shop("a,ma2", "aaaaa").bound());
        due("16 greatest", 3, shop("a,a,b", "aaabbb").bound());
        due("16 turned counts for both", 2, shop("tab", "abb").bound());
        due("16 joined counts twice", 2, shop("naa", "aaa").bound());
        due("16 joined counts for each", 1, shop("nab", "b_a").bound());
        due("16 none prints", 99, shop("a,b", "abc").bound());
        due("16 soap's more is no letter", 99, shop("ma1", "ab").bound());
        due("16 plain's more is no letter", 99, shop("b", "a").bound());
    }

    private static void promise17Order() {
        FewTypes x = new FewTypes();
        due("17 bad", BAD, x.order(-3));
        due("17 bad", BAD, x.order(10));
        due("17 no line", NOT, x.order(0));
        x = shop("a", "b");
        due("17 none", NONE, x.order(-2));
        x = shop("a", "aaaaaaa");
        due("17 full", FULL, x.order(-1));
        due("17 full ahead of no k-th", FULL, x.order(9));
        x = shop("a", "aaa");
        due("17 no creep", 0, x.order(-1));
        due("17 no creep, first", 0, x.order(0));
        due("17 no creep, last", 2, x.order(2));
        due("17 no k-th", NONE, x.order(3));
        due("17 no k-th", NONE, x.order(9));
        // one pull a place, 2 hairs each: places move apart as planned, into one another the other way
        x.rule(1, 1);
        due("17 apart", 0, x.order(-1));
        due("17 apart", 0, x.order(-2));
        x = shop("a,b", "abab");
        x.rule(1, 3);
        x.width(0, 4);
        // plan 3, 12: places 2, 3 creep off by 3
        due("17 plan", 3, x.plan(0));
        due("17 plan", 12, x.plan(1));
        due("17 off", 0, x.order(-1));
        due("17 off", 0, x.order(0));
        due("17 off", 1, x.order(1));
        x = shop("a", "aaaaaa");
        due("17 six", 5, x.order(5));
        due("17 no seventh", NONE, x.order(6));
        x.rule(1, 3);
        x.width(0, 1);
        // one hair each, three on at each pull: only another order could bring them together
        due("17 six apart", 0, x.order(-1));
        // plan 1 (a), 6 (b, a): the later ones creep away from the first
        x = shop("a,c", "aca");
        x.rule(1, 1);
        due("17 plan", 1, x.plan(0));
        due("17 plan", 6, x.plan(1));
        due("17 plan as it is", 0, x.order(-1));
        // plan 4 (a), 11 (nab, c): as planned the creeping pair goes into the a
        x = shopByWedges("a,b,c,nab", "abac");
        x.rule(1, 3);
        x.width(0, 4);
        due("17 as planned", 2, x.order(-1));
        due("17 best", 1, x.order(-2));
        due("17 best first", 1, x.order(0));
        due("17 best second", 0, x.order(1));
        due("17 no third", NONE, x.order(2));
        // plan 2 (b), 5 (a, a): the first a creeps into b, the other way round b into the last a
        x = shopByWedges("a,b,a", "aba");
        x.rule(1, 3);
        x.width(1, 3);
        due("17 plan", 2, x.plan(0));
        due("17 plan", 5, x.plan(1));
        due("17 like ones", 1, x.order(-1));
        due("17 like ones", 1, x.order(-2));
        due("17 like ones, the first", 0, x.order(0));
        x.rule(1, 2);
        due("17 by 2", 1, x.order(-1));
        x.width(0, 4);
        x.width(1, 2);
        due("17 by 2", 1, x.order(-1));
    }

    private static void promise18Make() {
        FewTypes x = new FewTypes();
        due("18 bad", BAD, x.make(0));
        due("18 bad", BAD, x.make(100));
        due("18 no line", NOT, x.make(1));
        due("18 none", NONE, shop("a", "b").make(1));
        x = shop("a,b", "aab");
        due("18 one lot", 2, x.make(4));
        due("18 two lots", 4, x.make(5));
        due("18 most", 50, x.make(99));
        x.rule(2, 1);
        due("18 damp 1", 198, x.make(99));
        x.rule(2, 9);
        due("18 damp 9", 22, x.make(99));
        x = shop("ma9,b,mb3,mc5", "aab");
        due("18 formes", 2, x.make(3));
        due("18 worn by both pulls", 3, x.told(0, 2));
        due("18 not used", 3, x.told(2, 2));
        due("18 still", 2, x.make(2));
        due("18 gone", 3, x.count(0));
        due("18 those behind", 1, x.told(0, 1));
        due("18 can't", NONE, x.make(1));
        x = shop("ma3", "a");
        due("18 worn", 1, x.make(2));
        due("18 one left", 1, x.told(0, 2));
        due("18 more than is left", 2, x.make(8));
        due("18 gone", 0, x.count(0));
        x = shop("mb1,ma1,a,b", "ab");
        due("18 two gone", 1, x.make(1));
        due("18 two gone", 2, x.count(0));
        due("18 left", 0, x.told(0, 1));
        due("18 left", 1, x.told(1, 1));
        due("18 again", 1, x.make(99) / 25);
        due("18 plain stays", 2, x.count(0));
    }

    private static void promise19Text() {
        FewTypes x = new FewTypes();
        due("19 no line", NOT, x.text(0));
        due("19 bad first", BAD, x.text(4));
        line(x, "ab");
        due("19 bad", BAD, x.text(-1));
        for (int i = 0; i < 8; i++) {
            due("19 text", i, x.text(i % 4));
        }
        due("19 full", FULL, x.text(0));
        due("19 bad ahead of full", BAD, x.text(9));
        due("19 count", 8, x.count(3));
        FewTypes y = new FewTypes();
        line(y, "aa");
        y.text(3);
        line(y, "b");
        y.cast(0, 0, 0);
        due("19 the line of then", 2, y.needs(0));
        due("19 its sense", 0, y.said(3));
        due("19 no other", NONE, y.said(0));
    }

    private static void promise20Needs() {
        FewTypes x = shop("a,b", "aaab");
        due("20 no text", BAD, x.needs(0));
        x.text(0);
        line(x, "c");
        x.text(0);
        due("20 three", 3, x.needs(0));
        due("20 none", NONE, x.needs(1));
        due("20 bad", BAD, x.needs(2));
        due("20 bad", BAD, x.needs(-1));
        x.cast(1, 0, 2);
        due("20 anew", 2, x.needs(0));
        due("20 anew", 1, x.needs(1));
        line(x, "aab");
        x.text(0);
        due("20 at once", 1, x.needs(2));
        x.rule(0, 1);
        due("20 wedges", 2, x.needs(0));
        due("20 wedges", 2, x.needs(2));
        line(x, "c");
        due("20 the line", 1, x.fewest());
        x.clear();
        due("20 gone", BAD, x.needs(0));
        x.text(0);
        due("20 another", 1, x.needs(0));
    }

    private static void promise21Lost() {
        FewTypes x = new FewTypes();
        due("21 no type", BAD, x.lost(0));
        types(x, "a,tab,nab,c");
        due("21 bad", BAD, x.lost(4));
        due("21 bad", BAD, x.lost(-1));
        due("21 no text", 0, x.lost(0));
        for (String text : new String[] {"a", "b", "ab", "c", "d", "ac_b", "abc"}) {
            line(x, text);
            x.text(1);
        }
        due("21 a", 0, x.lost(0));
        due("21 tab", 2 + 32, x.lost(1));
        due("21 nab", 0, x.lost(2));
        due("21 c", 8 + 32 + 64, x.lost(3));
        due("21 types stay", 4, x.count(0));
        x.lose(2);
        due("21 tab alone", 2 + 4 + 32 + 64, x.lost(1));
    }

    private static void promise22Said() {
        FewTypes x = shop("a,b,nab", "aaa");
        due("22 no text", NONE, x.said(0));
        due("22 bad", BAD, x.said(-1));
        due("22 bad", BAD, x.said(4));
        x.text(0);
        due("22 the only one", 0, x.said(0));
        line(x, "aab");
        x.text(0);
        due("22 fewer", 1, x.said(0));
        line(x, "ab_a");
        x.text(0);
        due("22 of like ones", 1, x.needs(2));
        due("22 of like ones the first", 1, x.said(0));
        line(x, "ab");
        x.text(1);
        due("22 of another sense", 1, x.said(0));
        due("22 of another sense", 3, x.said(1));
        line(x, "c");
        x.text(2);
        due("22 none", NONE, x.said(2));
        due("22 none", NONE, x.said(3));
        x.cast(0, 2, 0);
        due("22 with a type more", 4, x.said(2));
    }

    private static void promise23Job() {
        FewTypes x = new FewTypes();
        int[][] bad = {{0, 1}, {25, 1}, {1, 0}, {1, 201}, {-1, 5}, {5, LOWEST}, {HIGHEST, 5}};
        for (int[] b : bad) {
            due("23 bad", BAD, x.job(b[0], b[1]));
        }
        int[][] good = {{1, 1}, {24, 200}, {24, 1}, {1, 200}, {5, 5}, {5, 5}, {6, 7}, {8, 9}};
        for (int i = 0; i < 8; i++) {
            due("23 job", i, x.job(good[i][0], good[i][1]));
        }
        due("23 full", FULL, x.job(1, 1));
        due("23 bad ahead of full", BAD, x.job(1, 0));
        due("23 count", 8, x.count(4));
    }

    private static void promise24Done() {
        FewTypes x = new FewTypes();
        due("24 none", 0, x.done());
        x.job(2, 1);
        due("24 too long", 0, x.done());
        x.job(5, 5);
        due("24 just in time", 2, x.done());
        x.job(3, 3);
        due("24 of like ones the least set", 2, x.done());
        x.job(2, 5);
        due("24 two by what is due first", 12, x.done());
        x.job(24, 29);
        due("24 three", 12 + 16, x.done());
        x.job(1, 200);
        due("24 one more", 12 + 16 + 32, x.done());
        FewTypes y = new FewTypes();
        for (int i = 0; i < 8; i++) {
            y.job(24, 200 - i);
        }
        due("24 all", 255, y.done());
    }

    private static void promise25Clear() {
        FewTypes x = shop("a", "a");
        due("25 nothing", 0, x.clear());
        x.text(0);
        x.text(1);
        x.job(1, 2);
        due("25 together", 3, x.clear());
        due("25 texts", 0, x.count(3));
        due("25 jobs", 0, x.count(4));
        due("25 types stay", 1, x.count(0));
        due("25 the line stays", 1, x.count(1));
        due("25 again", 0, x.clear());
        due("25 from 0 on", 0, x.text(2));
        due("25 from 0 on", 0, x.job(1, 1));
        due("25 done", 1, x.done());
    }

    private static void promise26Image() {
        FewTypes x = shop("a,mb5", "ab");
        due("26 image", 1, x.image());
        due("26 changes nothing", 2, x.count(0));
        due("26 changes nothing", 2, x.count(1));
        x.lose(0);
        due("26 image anew", 1, x.image());
        x.cast(0, 0, 0);
        due("26 restore", 1, x.restore());
        due("26 the last image", 1, x.count(0));
    }

    private static void promise27Restore() {
        FewTypes x = shop("a,mb5,naa", "ab_a");
        due("27 none", NONE, x.restore());
        x.width(0, 3);
        x.rule(1, 2);
        x.text(2);
        x.job(3, 4);
        x.sheet(1, 0, 5);
        tape(x, "ab");
        x.image();
        due("27 fewest", 2, x.fewest());
        x.make(1);
        x.lose(2);
        x.width(0, 1);
        x.rule(1, 0);
        x.rule(2, 9);
        x.clear();
        x.drop(1);
        x.sheet(2, 1, 3);
        due("27 the tape goes on", 3, x.type('c', 1));
        due("27 restore", 1, x.restore());
        due("27 soap", 3, x.told(1, 0));
        due("27 soap is whole", 5, x.told(1, 2));
        due("27 types", 3, x.count(0));
        due("27 the line", 3, x.count(1));
        due("27 hairs", 10, x.count(2));
        due("27 texts", 1, x.count(3));
        due("27 its sense", 0, x.said(2));
        due("27 jobs", 1, x.count(4));
        due("27 done", 1, x.done());
        due("27 width", 3, x.width(0, 3));
        due("27 creep", 2, x.rule(1, 2));
        due("27 damp", 4, x.rule(2, 4));
        due("27 sheets stay", NULL, x.drop(1));
        due("27 sheets stay", 3, x.drop(2));
        due("27 the tape stays", 3, x.line());
        due("27 again", 1, x.restore());
        due("27 again", 0, x.place(2, 0));
        FewTypes y = new FewTypes();
        y.image();
        line(y, "a");
        due("27 no line then", 1, y.restore());
        due("27 no line then", NOT, y.fewest());
    }

    private static void items(FewTypes x, int sheet, int lane, int first, int... values) {
        for (int i = 0; i < values.length; i++) {
            due("item " + i, 1, x.item(sheet, lane, first + i, values[i]));
        }
    }

    private static void promise28Leaf() {
        FewTypes x = shop("a,b", "ab_a");
        due("28 bad sheet", BAD, x.leaf(4, 0, 0));
        due("28 bad sheet", BAD, x.leaf(-1, 0, 0));
        due("28 bad lane", BAD, x.leaf(0, 3, 0));
        due("28 bad lane", BAD, x.leaf(0, -1, 0));
        due("28 nothing", NULL, x.leaf(0, 2, 0));
        x.sheet(0, 2, 5);
        due("28 lane", CAST, x.leaf(0, 0, 9));
        due("28 index", INDEX, x.leaf(0, 2, -1));
        due("28 index", INDEX, x.leaf(0, 2, 3));
        due("28 index", INDEX, x.leaf(0, 2, HIGHEST));
        due("28 index", INDEX, x.leaf(0, 2, LOWEST));
        due("28 no creep", NOT, x.leaf(0, 2, 2));
        x.rule(1, 2);
        items(x, 0, 2, 0, 0, 2, 8);
        due("28 two", 2, x.leaf(0, 2, 0));
        items(x, 0, 2, 0, 0, 4, 8);
        due("28 two", 2, x.leaf(0, 2, 0));
        items(x, 0, 2, 0, 2, 4, 6);
        due("28 two", 2, x.leaf(0, 2, 0));
        items(x, 0, 2, 0, 4, 2, 8);
        due("28 three", 3, x.leaf(0, 2, 0));
        items(x, 0, 2, 0, 0, 2, 6);
        due("28 can't", NONE, x.leaf(0, 2, 0));
        items(x, 0, 2, 0, 2, 4, 10);
        due("28 not from 0 on", NONE, x.leaf(0, 2, 0));
        items(x, 0, 2, 0, 0, 2, 10);
        due("28 a gap", NONE, x.leaf(0, 2, 0));
        items(x, 0, 2, 0, 1, 2, 8);
        due("28 half a creep", NONE, x.leaf(0, 2, 0));
        items(x, 0, 2, 0, 0, 0, 8);
        due("28 below left", NONE, x.leaf(0, 2, 0));
        items(x, 0, 2, 0, 0, 2, HIGHEST - 1);
        due("28 far", NONE, x.leaf(0, 2, 0));
        items(x, 0, 2, 0, 0, LOWEST, 8);
        due("28 far below", NONE, x.leaf(0, 2, 0));
        items(x, 0, 2, 2, 0, 2, 8);
        due("28 from 2 on", 2, x.leaf(0, 2, 2));
        x.rule(0, 1);
        due("28 wedges", NONE, x.leaf(0, 2, 2));
        x.sheet(1, 0, 3);
        items(x, 1, 0, 0, 0, 4 + 256, 8 - 256);
        due("28 bytes", 2, x.leaf(1, 0, 0));
        FewTypes y = new FewTypes();
        y.sheet(0, 0, 3);
        y.rule(1, 1);
        due("28 no line", NOT, y.leaf(0, 0, 0));
        due("28 no line, nothing", NULL, y.leaf(1, 0, 0));
        FewTypes z = shop("a", "aaaaaaaaaa");
        z.rule(1, 3);
        z.sheet(3, 1, 24);
        for (int p = 0; p < 10; p++) {
            z.item(3, 1, 14 + p, 2 * p + 3 * (9 - p));
        }
        due("28 ten", 10, z.leaf(3, 1, 14));
    }

    private static void promise29Alike() {
        FewTypes x = new FewTypes();
        x.sheet(0, 0, 24);
        x.sheet(1, 0, 6);
        x.sheet(2, 2, 6);
        int[][] bad = {{4, 0, 1, 0}, {-1, 0, 1, 0}, {0, 4, 1, 0}, {0, -1, 1, 0}, {0, 1, 0, 0}, {0, 1, 25, 0}, {0, 1, 1, 2},
            {0, 1, 1, -1}, {3, 9, 1, 0}};
        for (int[] b : bad) {
            due("29 bad", BAD, x.alike(b[0], b[1], b[2], b[3]));
        }
        due("29 nothing", NULL, x.alike(3, 0, 1, 0));
        due("29 nothing", NULL, x.alike(0, 3, 1, 0));
        due("29 nothing", NULL, x.alike(3, 3, 1, 0));
        due("29 lanes", CAST, x.alike(0, 2, 1, 0));
        due("29 lanes ahead of index", CAST, x.alike(0, 2, 24, 0));
        due("29 index", INDEX, x.alike(0, 1, 7, 0));
        due("29 index", INDEX, x.alike(1, 0, 7, 1));
        due("29 the same", 1, x.alike(0, 0, 24, 0));
        due("29 the same", 1, x.alike(0, 0, 24, 1));
        items(x, 1, 0, 0, 1, 0, 0, 0, 5, 0);
        due("29 two thirds", 2, x.alike(0, 1, 6, 0));
        due("29 two thirds", 3, x.alike(0, 1, 6, 1));
        due("29 four fifths", 4, x.alike(0, 1, 5, 0) + x.alike(0, 1, 5, 0) - 2);
        due("29 fifths", 5, x.alike(0, 1, 5, 1));
        due("29 none", 0, x.alike(0, 1, 1, 0));
        due("29 none by 1", 1, x.alike(0, 1, 1, 1));
        items(x, 1, 0, 0, 7, 7, 7, 7, 7, 7);
        due("29 none of six", 0, x.alike(1, 0, 6, 0));
        due("29 none of six by 1", 1, x.alike(1, 0, 6, 1));
    }

    private static void promise30Sheet() {
        FewTypes x = new FewTypes();
        int[][] bad = {{4, 0, 1}, {-1, 0, 1}, {0, 3, 1}, {0, -1, 1}, {0, 0, 25}, {0, 0, HIGHEST}, {4, 0, -1}, {0, 3, -1}};
        for (int[] b : bad) {
            due("30 bad", BAD, x.sheet(b[0], b[1], b[2]));
        }
        due("30 size", SIZE, x.sheet(0, 0, -1));
        due("30 size", SIZE, x.sheet(0, 0, LOWEST));
        due("30 still nothing", NULL, x.drop(0));
        due("30 none", 0, x.sheet(0, 0, 0));
        due("30 most", 24, x.sheet(3, 2, 24));
        x.item(3, 2, 0, 5);
        due("30 size", SIZE, x.sheet(3, 2, -1));
        x.sheet(1, 2, 24);
        due("30 stays", 23, x.alike(1, 3, 24, 0));
        due("30 new", 24, x.sheet(3, 2, 24));
        due("30 new", 1, x.alike(1, 3, 24, 0));
        due("30 of another lane", 3, x.sheet(3, 1, 3));
        due("30 of another lane", CAST, x.item(3, 2, 0, 1));
        due("30 shorter", INDEX, x.item(3, 1, 3, 1));
    }

    private static void promise31Drop() {
        FewTypes x = new FewTypes();
        due("31 bad", BAD, x.drop(4));
        due("31 bad", BAD, x.drop(-1));
        due("31 nothing", NULL, x.drop(2));
        x.sheet(2, 1, 7);
        due("31 had", 7, x.drop(2));
        due("31 nothing then", NULL, x.drop(2));
        due("31 nothing then", NULL, x.item(2, 1, 0, 0));
        x.sheet(2, 1, 0);
        due("31 had none", 0, x.drop(2));
        due("31 nothing then", NULL, x.drop(2));
    }

    private static void promise32Item() {
        FewTypes x = new FewTypes();
        due("32 bad", BAD, x.item(4, 0, 0, 0));
        due("32 bad", BAD, x.item(-1, 0, 0, 0));
        due("32 bad", BAD, x.item(0, 3, 0, 0));
        due("32 bad", BAD, x.item(0, -1, 0, 0));
        due("32 nothing", NULL, x.item(0, 0, 0, 0));
        x.sheet(0, 1, 3);
        due("32 lane", CAST, x.item(0, 0, 9, 0));
        due("32 index", INDEX, x.item(0, 1, 3, 0));
        due("32 index", INDEX, x.item(0, 1, -1, 0));
        due("32 index", INDEX, x.item(0, 1, LOWEST, 0));
        for (int lane = 0; lane < 3; lane++) {
            x.sheet(0, lane, 2);
            x.sheet(1, lane, 2);
            due("32 item", 1, x.item(0, lane, 0, 1));
            due("32 item", 1, x.item(0, lane, 1, 128));
            x.item(1, lane, 0, 1 + 256);
            x.item(1, lane, 1, 128 + 65536);
            due("32 lowest bits of lane " + lane, new int[] {1, 1, 0}[lane], x.alike(0, 1, 2, 0));
            due("32 lowest bits of lane " + lane, new int[] {1, 2, 1}[lane], x.alike(0, 1, 2, 1));
        }
        FewTypes y = shop("a", "a");
        y.rule(1, 1);
        y.sheet(0, 0, 1);
        items(y, 0, 0, 0, 256);
        due("32 a byte", 1, y.leaf(0, 0, 0));
    }

    private static void promise33Copy() {
        FewTypes x = new FewTypes();
        due("33 bad", BAD, x.copy(4, 0, 0, 0, 0));
        due("33 bad", BAD, x.copy(0, 0, 4, 0, 0));
        due("33 bad", BAD, x.copy(-1, 0, 0, 0, 0));
        due("33 nothing", NULL, x.copy(0, 0, 1, 0, 0));
        x.sheet(0, 1, 5);
        due("33 nothing", NULL, x.copy(0, 0, 1, 0, 0));
        due("33 nothing", NULL, x.copy(1, 0, 0, 0, 0));
        x.sheet(1, 2, 5);
        due("33 lanes", CAST, x.copy(0, -1, 1, 0, 9));
        x.sheet(1, 1, 4);
        int[][] index = {{-1, 0, 1}, {0, -1, 1}, {0, 0, -1}, {5, 0, 1}, {0, 4, 1}, {0, 0, 5}, {1, 0, 5}, {6, 0, 0}, {0, 5, 0},
            {HIGHEST, 0, 1}, {0, HIGHEST, 1}, {1, 1, HIGHEST}, {0, 0, LOWEST}};
        for (int[] b : index) {
            due("33 index " + b[0] + " " + b[1] + " " + b[2], INDEX, x.copy(0, b[0], 1, b[1], b[2]));
        }
        due("33 none at the ends", 0, x.copy(0, 5, 1, 4, 0));
        items(x, 0, 1, 0, 1, 2, 3, 4, 5);
        due("33 three", 3, x.copy(0, 1, 1, 0, 3));
        x.sheet(2, 1, 4);
        items(x, 2, 1, 0, 2, 3, 4, 0);
        due("33 came", 1, x.alike(1, 2, 4, 0));
        due("33 came", 1, x.alike(1, 2, 4, 1));
        due("33 up", 4, x.copy(0, 0, 0, 1, 4));
        x.sheet(3, 1, 5);
        items(x, 3, 1, 0, 1, 1, 2, 3, 4);
        due("33 as if taken ahead", 1, x.alike(0, 3, 5, 1));
        due("33 down", 4, x.copy(0, 1, 0, 0, 4));
        items(x, 3, 1, 0, 1, 2, 3, 4, 4);
        due("33 as if taken ahead", 1, x.alike(0, 3, 5, 1));
    }

    /** What was found for a line is not kept beyond what it hangs on. */
    private static void answersAreFoundAnew() {
        FewTypes x = shop("a,b", "aab");
        x.text(0);
        due("anew 1", 2, x.fewest());
        due("anew 2", 2, x.needs(0));
        x.image();
        types(x, "a,a,b");
        due("anew 3", 1, x.fewest());
        due("anew 4", 1, x.needs(0));
        due("anew 5", 7, x.plan(0));
        x.restore();
        due("anew 6", 2, x.fewest());
        due("anew 7", 2, x.needs(0));
        due("anew 8", 1, x.plan(0));
        line(x, "b");
        due("anew 9", 1, x.fewest());
        due("anew 10", 2, x.needs(0));
        x.clear();
        x.text(0);
        due("anew 11", 1, x.needs(0));
        types(x, "mb1");
        due("anew 12", 1, x.make(1));
        due("anew 13", NONE, x.fewest());
        due("anew 14", NONE, x.needs(0));
    }
}
