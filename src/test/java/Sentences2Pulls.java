import java.util.ArrayList;
import java.util.List;

/** Promises 12 to 18: what pulls can do, plans, orders, making; each sentence that names a boundary by itself. */
public final class Sentences2Pulls extends Sentences {
    private static final String TEN_LETTERS = "abcdefghij", TEN_TYPES = "a,b,c,d,e,f,g,h,i,j";
    /** Cases and lines, of up to eight places, in which more than one row of pulls or order is to be tried. */
    private static final String[][] SHOPS = {{"a,b,c", "bcbcab"}, {"tca,tab,nbc,nba", "abbbbbaa"}, {"tac,c", "a_c_aa_aac"},
        {"a,c,tbc", "bcbbbac"}, {"nac,tcb,a,a", "abcbacb"}, {"ncc,tbc,tba", "cc_aacacb"}, {"a,nca,nac,tbc,nab", "ababa_aaa"},
        {"b,tba", "aba_a_a_a_b"}, {"nbc,nbb,c,b,nca", "bbcccc"}, {"nab,nba", "ababa"}};

    public static void main(String[] args) {
        runAll(Sentences2Pulls.class, 12, 18);
    }

    /** A line that can't be printed, and soap that could be worn. */
    private static FewTypes richOfALineThatCant() {
        FewTypes x = rich();
        x.line();
        line(x, "cd");
        return x;
    }

    private static FewTypes richOfSevenPulls() {
        FewTypes x = rich();
        x.line();
        line(x, "aaaaaaa");
        return x;
    }

    private static FewTypes creeping(FewTypes x, int creep, int... widths) {
        x.rule(1, creep);
        for (int letter = 0; letter < widths.length; letter++) {
            x.width(letter, widths[letter]);
        }
        return x;
    }

    // ---- 12: can

    static void p12_theSetIsNotEmpty() {
        due(BAD, shop("a", "a").can(0));
        due(BAD, shop(TEN_TYPES, TEN_LETTERS).can(0));
        due(BAD, new FewTypes().can(0));
    }

    static void p12_theSetIsOfPlacesOfTheLine() {
        for (int places = 1; places <= 10; places++) {
            FewTypes x = shop(TEN_TYPES, TEN_LETTERS.substring(0, places));
            due(1, x.can(1));
            due(1, x.can((1 << places) - 1));
            due(BAD, x.can(1 << places));
            due(BAD, x.can((1 << places) + 1));
            due(BAD, x.can(1 << 30));
            due(BAD, x.can(1 | 1 << 31));
            due(BAD, x.can(-1));
            due(BAD, x.can(LOWEST));
            due(BAD, x.can(HIGHEST));
        }
    }

    static void p12_withoutALineNoSetIsOfIt() {
        FewTypes x = typesOnly("a");
        due(BAD, x.can(1));
        due(BAD, x.can(1023));
        due(BAD, x.can(-1));
    }

    static void p12_withoutTypesNoneCan() {
        FewTypes x = lineOnly("ab");
        due(0, x.can(1));
        due(0, x.can(2));
        due(0, x.can(3));
        due(BAD, x.can(4));
    }

    static void p12_eachTypeIsUsedOnceAtMost() {
        due(0, shop("a", "aa").can(3));
        due(1, shop("a,a", "aa").can(3));
        due(0, shop("tab", "ab").can(3));
        due(1, shop("tab,tab", "ab").can(3));
        due(0, shop("ma9", "aa").can(3));
        due(0, shop("naa", "aaaa").can(15));
        due(1, shop("naa,naa", "aaaa").can(15));
        due(0, shop("nab", "ab_ab").can(15));
    }

    static void p12_turnedPrintsEitherLetter() {
        FewTypes x = shop("tbd", "abcd");
        due(0, x.can(1));
        due(1, x.can(2));
        due(0, x.can(4));
        due(1, x.can(8));
    }

    static void p12_soapPrintsAsPlain() {
        FewTypes x = shop("ma1", "ab");
        due(1, x.can(1));
        due(0, x.can(2));
        due(1, x.can(1));
    }

    static void p12_joinedPrintsTwoAndNotOne() {
        FewTypes x = shop("nab", "ab");
        due(0, x.can(1));
        due(0, x.can(2));
        due(1, x.can(3));
    }

    static void p12_joinedIsForTwoBesideOneAnother() {
        due(1, shop("nab", "ab").can(3));
        due(0, shop("nab", "a_b").can(3));
        due(0, shop("nab", "acb").can(5));
        due(0, shop("nab", "ba").can(3));
        due(1, shop("naa", "aa").can(3));
        due(0, shop("naa", "a_a").can(3));
    }

    static void p12_joinedOnesDoNotShareAPlace() {
        due(0, shop("nab,nbc", "abc").can(7));
        due(1, shop("nab,c", "abc").can(7));
        due(1, shop("a,nbc", "abc").can(7));
        due(0, shop("naa,naa", "aaa").can(7));
        due(1, shop("naa,a", "aaa").can(7));
    }

    static void p12_joinedAtTheLastPlaces() {
        FewTypes x = shop("nij", TEN_LETTERS);
        due(1, x.can(768));
        due(0, x.can(512));
        due(0, x.can(256));
        due(0, x.can(384));
    }

    static void p12_allTenTypesAreNeeded() {
        String ring = "tab,tbc,tcd,tde,tef,tfg,tgh,thi,tij,tja";
        due(1, shop(ring, TEN_LETTERS).can(1023));
        due(1, shop(ring, "aabcdefghi").can(1023));
        due(0, shop(ring, "aaabcdefgh").can(1023));
        due(1, shop(ring, "aaabcdefgh").can(1022));
        due(0, shop("tab,tbc,tcd,tde,tef,tfg,tgh,thi,tij", TEN_LETTERS).can(1023));
    }

    static void p12_noOtherOfTenTypesStandsIn() {
        String nine = "abcdefghi";
        for (int twice = 1; twice < 9; twice++) {
            FewTypes x = shop("a,b,c,d,e,f,g,h,i,a", nine + nine.charAt(twice));
            int both = 1 << twice | 1 << 9;
            due(0, x.can(both));
            due(0, x.can(1023));
            due(1, x.can(1023 - 512));
            due(1, x.can(1023 - (1 << twice)));
        }
        due(1, shop("a,b,c,d,e,f,g,h,i,a", "abcdefghia").can(1023));
    }

    static void p12_whatWasToldBeforeCountsForNothing() {
        FewTypes x = shop("nab,a", "ab");
        due(1, x.can(3));
        line(x, "ba");
        due(0, x.can(3));
        due(1, x.can(2));
        line(x, "a_b");
        due(0, x.can(3));
        types(x, "b");
        due(0, x.can(1));
        due(1, x.can(2));
    }

    static void p12_withoutWedgesPlacesMayBeBeside() {
        due(1, shop("a,b,c", "abc").can(7));
        due(1, shop("nab,ncd", "abcd").can(15));
    }

    static void p12_byWedgesNoTwoAreBeside() {
        FewTypes x = wedged("a,b,c,a", "abc_a");
        due(1, x.can(1));
        due(0, x.can(3));
        due(1, x.can(5));
        due(0, x.can(6));
        due(0, x.can(7));
        due(1, x.can(4 + 8));
        due(1, x.can(1 + 4 + 8));
        due(1, x.can(2 + 8));
    }

    static void p12_byWedgesButThoseOfOneJoinedType() {
        due(1, wedged("nab", "ab").can(3));
        due(1, wedged("a,b,nab", "ab").can(3));
        due(0, wedged("nab,c", "abc").can(7));
        due(0, wedged("c,nab", "cab").can(7));
        due(0, wedged("nab,ncd", "abcd").can(15));
        due(1, wedged("nab,ncd", "ab_cd").can(15));
        due(1, wedged("nab,d", "abcd").can(11));
        due(1, wedged("nab,c", "ab_c").can(7));
        due(0, wedged("nab,a,b", "ab_ab").can(15));
        due(0, wedged("nba", "ab").can(3));
    }

    static void p12_canChangesNothing() {
        same(1, x -> x.can(3));
        same(0, x -> x.can(31));
        same(BAD, x -> x.can(0));
        same(BAD, x -> x.can(32));
        same(BAD, Sentences::richWithoutLine, x -> x.can(1));
    }

    // ---- 13: by

    static void p13_theSetIsOfPlacesAndNotEmpty() {
        for (int places = 1; places <= 10; places++) {
            FewTypes x = shop(TEN_TYPES, TEN_LETTERS.substring(0, places));
            due(BAD, x.by(0, 0));
            due(0, x.by(1, 0));
            due(places - 1, x.by((1 << places) - 1, places - 1));
            due(BAD, x.by(1 << places, 0));
            due(BAD, x.by(1 << places, places));
            due(BAD, x.by((1 << places) + 1, 0));
            due(BAD, x.by(-1, 0));
            due(BAD, x.by(LOWEST, 0));
            due(BAD, x.by(HIGHEST, 0));
        }
    }

    static void p13_thePlaceIsOneOfTheLine() {
        FewTypes x = shop("a,b,c", "abc");
        due(BAD, x.by(7, -1));
        due(0, x.by(7, 0));
        due(2, x.by(7, 2));
        due(BAD, x.by(7, 3));
        due(BAD, x.by(7, 10));
        due(BAD, x.by(7, 32));
        due(BAD, x.by(7, 34));
        due(BAD, x.by(7, -31));
        due(BAD, x.by(7, LOWEST));
        due(BAD, x.by(7, HIGHEST));
        x = shop(TEN_TYPES, TEN_LETTERS);
        due(9, x.by(1023, 9));
        due(BAD, x.by(1023, 10));
    }

    static void p13_thePlaceIsInTheSet() {
        FewTypes x = shop("a,b,c", "abc");
        for (int set = 1; set < 8; set++) {
            for (int place = 0; place < 3; place++) {
                due((set >> place & 1) == 1 ? place : BAD, x.by(set, place));
            }
        }
    }

    static void p13_withoutALineAllIsBad() {
        due(BAD, typesOnly("a").by(1, 0));
        due(BAD, new FewTypes().by(0, 0));
    }

    static void p13_noneIfItCanNot() {
        FewTypes x = shop("a,nbc", "abc");
        due(NONE, x.by(2, 1));
        due(NONE, x.by(3, 0));
        due(NONE, x.by(3, 1));
        due(0, x.by(1, 0));
        due(NONE, lineOnly("a").by(1, 0));
        due(NONE, wedged("a,b", "ab").by(3, 0));
    }

    static void p13_badAheadOfNone() {
        FewTypes x = shop("a", "bbb");
        due(NONE, x.by(3, 0));
        due(BAD, x.by(3, 2));
        due(BAD, x.by(3, 3));
        due(BAD, x.by(8, 3));
        due(BAD, x.by(0, 0));
    }

    static void p13_theLeastNumberOfTypes() {
        dueText("0", wayOf(shop("a,a,a", "a"), 1));
        dueText("1", wayOf(shop("b,a,a", "a"), 1));
        dueText("0 1", wayOf(shop("a,a,a", "aa"), 3));
        dueText("9", wayOf(shop("b,b,b,b,b,b,b,b,b,a", "a"), 1));
        dueText("0", wayOf(shop("tba,a", "a"), 1));
        dueText("0", wayOf(shop("ma1,a", "a"), 1));
        dueText("0", wayOf(shop("a,ma1", "a"), 1));
    }

    static void p13_withWhichTheRestCanBe() {
        dueText("1 0", wayOf(shop("tab,a", "ab"), 3));
        dueText("0 1", wayOf(shop("tab,b", "ab"), 3));
        dueText("0 3 1", wayOf(shop("tab,tbc,a,b", "abc"), 7));
        dueText("2 0 1", wayOf(shop("tab,tbc,a", "abc"), 7));
        dueText("0", wayOf(shop("tab,a", "ab"), 1));
    }

    static void p13_aJoinedTypePrintsBothOfItsPlaces() {
        dueText("0 0", wayOf(shop("nab,a,b", "ab"), 3));
        dueText("0 1", wayOf(shop("a,b,nab", "ab"), 3));
        dueText("0 2", wayOf(shop("a,nab,b", "ab"), 3));
        dueText("1 1", wayOf(shop("a,nab", "ab"), 3));
        dueText("1 1", wayOf(shop("b,nab", "ab"), 3));
        dueText("0 0 1", wayOf(shop("naa,a", "aaa"), 7));
        dueText("0 1 1", wayOf(shop("a,naa", "aaa"), 7));
        dueText("9 9", wayOf(shop("c,c,c,c,c,c,c,c,c,nij", TEN_LETTERS), 768));
    }

    static void p13_theLeastWayByWedges() {
        dueText("2 2", wayOf(wedged("a,b,nab", "ab"), 3));
        dueText("0 1", wayOf(wedged("a,b,nab", "a_b"), 3));
        dueText("0 0 1", wayOf(wedged("nab,a,b", "ab_a"), 7));
        dueText("2 2 0 1", wayOf(wedged("a,b,nab,b", "ab_a_b"), 15));
    }

    static void p13_byChangesNothing() {
        same(2, x -> x.by(3, 0));
        same(NONE, x -> x.by(31, 0));
        same(BAD, x -> x.by(3, 2));
        same(BAD, x -> x.by(0, 0));
        same(BAD, Sentences::richWithoutLine, x -> x.by(1, 0));
    }

    // ---- 14: fewest

    static void p14_notIfThereIsNoLine() {
        due(NOT, typesOnly("a").fewest());
    }

    static void p14_notAheadOfNone() {
        due(NOT, new FewTypes().fewest());
    }

    static void p14_noneIfItCantBePrinted() {
        due(NONE, lineOnly("a").fewest());
        due(NONE, shop("a", "ab").fewest());
        due(NONE, shop("a,b,c,d,e,f,g,h,i,j", "l").fewest());
        due(NONE, shop("nab", "aba").fewest());
        due(NONE, shop("nab", "a_b").fewest());
        due(NONE, shop("nab", "a").fewest());
    }

    static void p14_oneIsTheLeast() {
        due(1, shop("a", "a").fewest());
        due(1, shop(TEN_TYPES, TEN_LETTERS).fewest());
        due(1, shop("naa,naa,naa,naa,naa", "aaaaaaaaaa").fewest());
    }

    static void p14_tenIsTheMost() {
        due(10, shop("a", "aaaaaaaaaa").fewest());
        due(10, wedged("ma1", "a_a_a_a_a_a_a_a_a_a").fewest());
        due(5, shop("naa", "aaaaaaaaaa").fewest());
    }

    static void p14_typesComeAgainInEachPull() {
        due(2, shop("a", "aa").fewest());
        due(2, shop("tab", "ab").fewest());
        due(2, shop("nab", "abab").fewest());
    }

    static void p14_soapComesAgainHoweverLongItLasts() {
        due(3, shop("ma1", "aaa").fewest());
        due(10, shop("ma9", "aaaaaaaaaa").fewest());
    }

    static void p14_eachPlaceIsInkedOnce() {
        due(NONE, shop("nab,nba", "aba").fewest());
        due(2, shop("nab,nba,a", "abaa").fewest());
        due(NONE, shop("naa", "aaa").fewest());
    }

    static void p14_byWedges() {
        due(1, shop("a,b", "ab").fewest());
        due(2, wedged("a,b", "ab").fewest());
        due(1, wedged("a,b", "a_b").fewest());
        due(1, wedged("nab", "ab").fewest());
        due(2, wedged(TEN_TYPES, TEN_LETTERS).fewest());
        due(2, wedged("nab,nab", "abab").fewest());
    }

    /** All rows of pulls are tried, by what can() answers. */
    private static void dueFirstOfAllRows(FewTypes x) {
        int all = (1 << x.count(1)) - 1;
        int[] least = new int[all + 1];
        boolean[] can = new boolean[all + 1];
        for (int set = 1; set <= all; set++) {
            can[set] = x.can(set) == 1;
            least[set] = 99;
            for (int pull = 1; pull <= set; pull++) {
                if ((pull & ~set) == 0 && can[pull]) {
                    least[set] = Math.min(least[set], 1 + least[set - pull]);
                }
            }
        }
        due(least[all] == 99 ? NONE : least[all], x.fewest());
        if (least[all] < 99) {
            dueText(firstRow(all, least, can), planOf(x));
        }
    }

    private static String firstRow(int all, int[] least, boolean[] can) {
        StringBuilder row = new StringBuilder();
        int rest = all;
        while (rest != 0) {
            int pull = 1;
            while ((pull & ~rest) != 0 || !can[pull] || least[rest - pull] != least[rest] - 1) {
                pull++;
            }
            row.append(row.length() == 0 ? "" : " ").append(pull);
            rest -= pull;
        }
        return row.toString();
    }

    static void p14_theLeastOfAllRowsOfPulls() {
        for (String[] s : SHOPS) {
            dueFirstOfAllRows(shop(s[0], s[1]));
            dueFirstOfAllRows(wedged(s[0], s[1]));
        }
    }

    static void p14_fewestIsFoundAnew() {
        FewTypes x = shop("a,b", "aab");
        due(2, x.fewest());
        x.cast(0, 0, 0);
        due(1, x.fewest());
        x.rule(0, 1);
        due(2, x.fewest());
        x.rule(0, 0);
        due(1, x.fewest());
        x.image();
        x.lose(0);
        due(2, x.fewest());
        x.restore();
        due(1, x.fewest());
        line(x, "aaab");
        due(2, x.fewest());
        types(x, "a,mb1");
        due(3, x.fewest());
        x.make(1);
        due(NONE, x.fewest());
    }

    static void p14_fewestChangesNothing() {
        same(2, x -> x.fewest());
        same(NONE, Sentences2Pulls::richOfALineThatCant, x -> x.fewest());
        same(NOT, Sentences::richWithoutLine, x -> x.fewest());
    }

    // ---- 15: plan

    static void p15_kIs0To9() {
        FewTypes x = shop("a", "aaaaaaaaaa");
        due(BAD, x.plan(-1));
        due(1, x.plan(0));
        due(512, x.plan(9));
        due(BAD, x.plan(10));
        due(BAD, x.plan(LOWEST));
        due(BAD, x.plan(HIGHEST));
    }

    static void p15_badAheadOfNotAheadOfNone() {
        FewTypes x = new FewTypes();
        due(BAD, x.plan(-1));
        due(BAD, x.plan(10));
        due(NOT, x.plan(0));
        due(NOT, x.plan(9));
        x = lineOnly("a");
        due(BAD, x.plan(-1));
        due(BAD, x.plan(10));
        due(NONE, x.plan(0));
        due(NONE, x.plan(9));
    }

    static void p15_noneIfThereIsNoKTh() {
        for (int pulls = 1; pulls <= 10; pulls++) {
            FewTypes x = shop("a", "aaaaaaaaaa".substring(0, pulls));
            due(1 << (pulls - 1), x.plan(pulls - 1));
            for (int k = pulls; k < 10; k++) {
                due(NONE, x.plan(k));
            }
        }
    }

    static void p15_ofLikeRowsTheFirst() {
        dueText("5 10", planOf(shop("a,b", "aabb")));
        dueText("1 14", planOf(shop("a,b,c", "aabc")));
        dueText("1 2 4", planOf(shop("a", "aaa")));
        dueText("1 2 12", planOf(shop("a,b", "aaab")));
        dueText("2 4 9", planOf(shop("a,b", "abbb")));
        dueText("3 12", planOf(shop("a,b", "abab")));
    }

    static void p15_onePullInksAll() {
        dueText("1023", planOf(shop(TEN_TYPES, TEN_LETTERS)));
        dueText("7", planOf(shop("nab,a", "aba")));
        dueText("1", planOf(shop("l", "l")));
    }

    static void p15_thePlanByWedges() {
        dueText("4 11", planOf(wedged("a,b,c,nab", "abac")));
        dueText("2 5", planOf(wedged("a,b,c", "abc")));
        dueText("1 2", planOf(wedged("a,b", "ab")));
        dueText("341 682", planOf(wedged(TEN_TYPES, TEN_LETTERS)));
    }

    static void p15_thePlanIsFoundAnew() {
        FewTypes x = shop("a,b", "aab");
        dueText("1 6", planOf(x));
        x.cast(0, 0, 0);
        dueText("7", planOf(x));
        due(NONE, x.plan(1));
        x.rule(0, 1);
        dueText("2 5", planOf(x));
        line(x, "a_b");
        dueText("3", planOf(x));
        x.text(0);
        line(x, "aaa");
        x.needs(0);
        dueText("2 5", planOf(x));
    }

    static void p15_onePullBehindAnotherPlan() {
        FewTypes x = shop("a", "aa");
        dueText("1 2", planOf(x));
        types(x, "a,b,c");
        line(x, "abc");
        dueText("7", planOf(x));
        line(x, "a");
        dueText("1", planOf(x));
    }

    static void p15_planChangesNothing() {
        same(26, x -> x.plan(1));
        same(BAD, x -> x.plan(10));
        same(NONE, x -> x.plan(2));
        same(NOT, Sentences::richWithoutLine, x -> x.plan(0));
    }

    // ---- 16: bound

    static void p16_notIfThereIsNoLine() {
        due(NOT, new FewTypes().bound());
        due(NOT, typesOnly("a,b").bound());
    }

    static void p16_itIsCutUp() {
        int[] byThree = {1, 1, 1, 2, 2, 2, 3, 3, 3, 4};
        for (int n = 1; n <= 10; n++) {
            due(byThree[n - 1], shop("a,a,a", "aaaaaaaaaa".substring(0, n)).bound());
            due(n, shop("a", "aaaaaaaaaa".substring(0, n)).bound());
            due(1, shop("a,a,a,a,a,a,a,a,a,a", "aaaaaaaaaa".substring(0, n)).bound());
        }
    }

    static void p16_itIs99IfNonePrintsALetter() {
        due(99, lineOnly("a").bound());
        due(99, shop("a", "aaaaaaaaab").bound());
        due(99, shop("a,b,c,d,e,f,g,h,i,j", "l").bound());
        due(99, shop("tab,nab,ma1", "c").bound());
    }

    static void p16_theGreatestOverLetters() {
        due(3, shop("a,b,b,c", "aaabbbbc").bound());
        due(2, shop("a,b,b,l", "abbbll").bound());
        due(4, shop("a,l", "llllaa").bound());
    }

    static void p16_lettersThatAreNotInTheLineCountForNothing() {
        due(1, shop("a", "a").bound());
        due(1, shop("a,b,c", "b").bound());
    }

    static void p16_turnedCountsForBothLetters() {
        due(1, shop("tab", "ab").bound());
        due(2, shop("tab", "abb").bound());
        due(1, shop("tab,b", "abb").bound());
    }

    static void p16_joinedCountsForEachOfItsLetters() {
        due(1, shop("nab", "b_a").bound());
        due(2, shop("nab", "bab").bound());
    }

    static void p16_joinedOfOneLetterCountsTwice() {
        due(1, shop("naa", "aa").bound());
        due(2, shop("naa", "aaa").bound());
        due(2, shop("naa", "aaaa").bound());
        due(1, shop("naa,a", "aaa").bound());
        due(2, shop("naa,a", "aaaa").bound());
    }

    static void p16_soapAndPlainHaveOneLetter() {
        due(2, shop("ma9,ma1", "aaa").bound());
        due(99, shop("ma1", "b").bound());
        due(99, shop("b", "a").bound());
    }

    static void p16_boundChangesNothing() {
        same(1, x -> x.bound());
        same(99, Sentences2Pulls::richOfALineThatCant, x -> x.bound());
        same(NOT, Sentences::richWithoutLine, x -> x.bound());
    }

    // ---- 17: order

    static void p17_kIsFrom2BelowTo9() {
        FewTypes x = shop("a", "aaaaaa");
        due(BAD, x.order(-3));
        due(0, x.order(-2));
        due(0, x.order(-1));
        due(0, x.order(0));
        due(5, x.order(5));
        due(NONE, x.order(9));
        due(BAD, x.order(10));
        due(BAD, x.order(LOWEST));
        due(BAD, x.order(HIGHEST));
    }

    static void p17_badAheadOfAll() {
        FewTypes[] all = {new FewTypes(), lineOnly("a"), shop("a", "aaaaaaa")};
        for (FewTypes x : all) {
            due(BAD, x.order(-3));
            due(BAD, x.order(10));
        }
    }

    static void p17_notIfThereIsNoLine() {
        for (int k = -2; k < 10; k++) {
            due(NOT, new FewTypes().order(k));
            due(NOT, typesOnly("a").order(k));
        }
    }

    static void p17_noneIfItCantBePrinted() {
        for (int k = -2; k < 10; k++) {
            due(NONE, lineOnly("aaaaaaa").order(k));
            due(NONE, shop("a", "ab").order(k));
        }
    }

    static void p17_fullIfItHasMoreThan6Pulls() {
        FewTypes x = shop("a", "aaaaaa");
        due(0, x.order(-1));
        due(0, x.order(-2));
        dueText("0 1 2 3 4 5", orderOf(x));
        line(x, "aaaaaaa");
        due(FULL, x.order(-1));
        due(FULL, x.order(-2));
        due(FULL, x.order(0));
        due(FULL, x.order(6));
        line(x, "aaaaaaaaaa");
        due(FULL, x.order(-1));
    }

    static void p17_fullAheadOfNoKTh() {
        FewTypes x = shop("a", "aaaaaaa");
        due(FULL, x.order(7));
        due(FULL, x.order(9));
    }

    static void p17_noneIfThereIsNoKTh() {
        for (int pulls = 1; pulls <= 6; pulls++) {
            FewTypes x = shop("a", "aaaaaa".substring(0, pulls));
            due(pulls - 1, x.order(pulls - 1));
            for (int k = pulls; k < 10; k++) {
                due(NONE, x.order(k));
            }
        }
    }

    /** Plan 2, 5: pull 0 inks b, pull 1 a and c, so that the a creeps over the b, as planned. */
    private static FewTypes aOverB(int creep, int a, int b) {
        return creeping(wedged("a,b,c", "abc"), creep, a, b, 1);
    }

    static void p17_noCreepNoClash() {
        FewTypes x = aOverB(0, 4, 4);
        due(0, x.order(-1));
        due(0, x.order(-2));
        dueText("0 1", orderOf(x));
    }

    static void p17_oneHairIsEnoughForAClash() {
        due(1, aOverB(1, 4, 4).order(-1));
        due(1, aOverB(1, 1, 1).order(-1));
        due(1, aOverB(3, 1, 3).order(-1));
        due(1, aOverB(3, 2, 2).order(-1));
    }

    static void p17_whatOnlyTouchesIsNoClash() {
        due(0, aOverB(2, 1, 1).order(-1));
        due(0, aOverB(3, 1, 2).order(-1));
        due(0, aOverB(3, 2, 1).order(-1));
        due(0, aOverB(3, 1, 1).order(-1));
    }

    static void p17_aBlankIs2HairsOfRoom() {
        FewTypes x = creeping(wedged("a,b,c", "a_bc"), 2, 1, 1, 1);
        dueText("2 5", planOf(x));
        due(0, x.order(-1));
        x.rule(1, 3);
        due(1, x.order(-1));
        due(0, x.order(-2));
        dueText("1 0", orderOf(x));
    }

    static void p17_theKThPullIsKCreepsOn() {
        FewTypes x = shop("a,b", "abbb");
        dueText("2 4 9", planOf(x));
        int[][] want = {{1, 2, 1}, {2, 2, 0}, {3, 2, 1}, {1, 1, 0}, {2, 1, 1}, {3, 1, 0}};
        for (int[] w : want) {
            creeping(x, w[0], w[1], w[1]);
            due(w[2], x.order(-1));
        }
    }

    static void p17_placesOfOnePullDoNotClash() {
        FewTypes x = creeping(shop("a,b,c", "abc"), 3, 4, 4, 4);
        due(0, x.order(-1));
        due(0, x.order(-2));
        dueText("0", orderOf(x));
    }

    static void p17_pairsAreCounted() {
        FewTypes x = creeping(wedged("a,b,c,nab", "abac"), 3, 4);
        dueText("4 11", planOf(x));
        due(2, x.order(-1));
        due(1, x.order(-2));
        dueText("1 0", orderOf(x));
    }

    static void p17_ofLikeOrdersTheFirst() {
        FewTypes x = aOverB(1, 2, 2);
        due(1, x.order(-1));
        due(1, x.order(-2));
        dueText("0 1", orderOf(x));
        x = creeping(shop("a,b", "abbb"), 1, 2, 2);
        due(1, x.order(-2));
        dueText("0 1 2", orderOf(x));
    }

    static void p17_theBestOfThree() {
        FewTypes x = creeping(shop("a,b,c", "abcc_c"), 1);
        dueText("4 8 19", planOf(x));
        due(1, x.order(-1));
        due(0, x.order(-2));
        dueText("2 0 1", orderOf(x));
    }

    /** All orders are tried, hair by hair. */
    private static void dueBestOfAllOrders(FewTypes x, int creep) {
        x.rule(1, creep);
        int pulls = x.fewest();
        int places = x.count(1);
        int[] pullOf = new int[places];
        int[] left = new int[places + 1];
        for (int place = 0; place < places; place++) {
            left[place] = x.place(place, 1);
            for (int k = 0; k < pulls; k++) {
                pullOf[place] = (x.plan(k) >> place & 1) == 1 ? k : pullOf[place];
            }
        }
        left[places] = x.count(2);
        int[] wide = new int[places];
        for (int place = 0; place < places; place++) {
            wide[place] = left[place + 1] - left[place] - (x.place(place, 2) == 0 && place + 1 < places ? 2 : 0);
        }
        int best = 999;
        String first = "";
        for (String order : orders("012345".substring(0, pulls))) {
            int clashes = clashes(order, pullOf, left, wide, creep);
            if (clashes < best) {
                best = clashes;
                first = order;
            }
        }
        due(best, x.order(-2));
        due(clashes("012345", pullOf, left, wide, creep), x.order(-1));
        dueText(first, orderOf(x).replace(" ", ""));
    }

    private static int clashes(String order, int[] pullOf, int[] left, int[] wide, int creep) {
        int found = 0;
        for (int p = 0; p < wide.length; p++) {
            for (int q = 0; q < p; q++) {
                int from = left[p] + creep * order.indexOf('0' + pullOf[p]);
                int other = left[q] + creep * order.indexOf('0' + pullOf[q]);
                boolean over = false;
                for (int hair = from; hair < from + wide[p]; hair++) {
                    over |= hair >= other && hair < other + wide[q];
                }
                found += over ? 1 : 0;
            }
        }
        return found;
    }

    /** All rows of these signs, the first one first. */
    private static List<String> orders(String signs) {
        List<String> all = new ArrayList<>();
        if (signs.length() < 2) {
            all.add(signs);
            return all;
        }
        for (int i = 0; i < signs.length(); i++) {
            for (String rest : orders(signs.substring(0, i) + signs.substring(i + 1))) {
                all.add(signs.charAt(i) + rest);
            }
        }
        return all;
    }

    static void p17_theBestOfAllOrders() {
        for (String[] s : SHOPS) {
            for (int creep = 1; creep <= 3; creep++) {
                FewTypes x = creep == 2 ? wedged(s[0], s[1]) : shop(s[0], s[1]);
                x.width(0, 4);
                x.width(1, 1);
                x.width(2, creep);
                if (x.fewest() > 0 && x.fewest() < 7) {
                    dueBestOfAllOrders(x, creep);
                }
            }
        }
    }

    static void p17_ofTenPlaces() {
        dueBestOfAllOrders(creeping(shop("a,b", "aabbaabbab"), 0, 3, 2), 1);
        dueBestOfAllOrders(creeping(wedged("a,b,c,nab", "cabcabab_c"), 0, 4, 1, 3), 2);
        dueBestOfAllOrders(creeping(shop("a,a,b", "aaaaabbbba"), 0, 1, 4), 3);
    }

    static void p17_orderChangesNothing() {
        same(0, x -> x.order(0));
        same(BAD, x -> x.order(-3));
        same(NONE, x -> x.order(2));
        same(FULL, Sentences2Pulls::richOfSevenPulls, x -> x.order(0));
        same(NOT, Sentences::richWithoutLine, x -> x.order(0));
        same(NONE, Sentences2Pulls::richOfALineThatCant, x -> x.order(0));
    }

    // ---- 18: make

    static void p18_nIs1To99() {
        FewTypes x = shop("a", "a");
        due(BAD, x.make(0));
        due(BAD, x.make(-1));
        due(1, x.make(1));
        due(25, x.make(99));
        due(BAD, x.make(100));
        due(BAD, x.make(LOWEST));
        due(BAD, x.make(HIGHEST));
    }

    static void p18_badAheadOfNotAheadOfNone() {
        FewTypes x = new FewTypes();
        due(BAD, x.make(0));
        due(BAD, x.make(100));
        due(NOT, x.make(1));
        due(NOT, x.make(99));
        x = lineOnly("a");
        due(BAD, x.make(0));
        due(BAD, x.make(100));
        due(NONE, x.make(1));
    }

    static void p18_lotsAreCutUp() {
        FewTypes x = shop("a", "a");
        for (int damp = 1; damp <= 9; damp++) {
            x.rule(2, damp);
            due(1, x.make(1));
            due(1, x.make(damp));
            due(2, x.make(damp + 1));
            due(2, x.make(2 * damp));
            due(3, x.make(2 * damp + 1));
        }
        due(11, x.make(99));
        due(11, x.make(91));
        due(10, x.make(90));
        x.rule(2, 1);
        due(99, x.make(99));
    }

    static void p18_formesArePullsTimesLots() {
        FewTypes x = shop("a", "aaaaaaaaaa");
        due(10, x.make(4));
        due(20, x.make(5));
        x.rule(2, 1);
        due(990, x.make(99));
        line(x, "aaa");
        due(297, x.make(99));
    }

    static void p18_moreThan6PullsAreMade() {
        due(7, shop("a", "aaaaaaa").make(1));
    }

    static void p18_soapWearsBy1ForEachSheet() {
        FewTypes x = shop("ma9", "a");
        x.make(1);
        dueText("ma8", typesOf(x));
        x.make(7);
        dueText("ma1", typesOf(x));
        x.make(1);
        dueText("", typesOf(x));
    }

    static void p18_soapWearsByEachPullThatUsesIt() {
        FewTypes x = shop("ma9,mb9", "aab");
        dueText("1 6", planOf(x));
        due(2, x.make(2));
        dueText("ma5,mb7", typesOf(x));
        x = shop("ma9", "aaa");
        x.make(2);
        dueText("ma3", typesOf(x));
        x.make(1);
        dueText("", typesOf(x));
    }

    static void p18_onlyTheLeastWayWears() {
        FewTypes x = shop("a,ma5", "a");
        x.make(9);
        dueText("a,ma5", typesOf(x));
        x = shop("ma5,a", "a");
        x.make(3);
        dueText("ma2,a", typesOf(x));
        x = shop("ma5,a,ma5", "aa");
        x.make(1);
        dueText("ma4,a,ma5", typesOf(x));
        x = shop("ma5,mb5,nab", "ab");
        x.make(1);
        dueText("ma4,mb4,nab", typesOf(x));
        x = wedged("ma5,mb5,nab", "ab");
        x.make(1);
        dueText("ma5,mb5,nab", typesOf(x));
    }

    static void p18_whatHasWornOffIsGone() {
        FewTypes x = shop("ma3", "a");
        x.make(2);
        dueText("ma1", typesOf(x));
        x = shop("ma3", "a");
        x.make(3);
        dueText("", typesOf(x));
        x = shop("ma3", "a");
        x.make(4);
        dueText("", typesOf(x));
        x = shop("ma9", "a");
        x.make(99);
        dueText("", typesOf(x));
        due(0, x.count(0));
        due(NONE, x.make(1));
    }

    static void p18_itIsGoneAtTheEndNotAhead() {
        FewTypes x = shop("ma1", "aaa");
        due(75, x.make(99));
        dueText("", typesOf(x));
        x = shop("ma1,a,b", "aab");
        due(2, x.make(8));
        dueText("a,b", typesOf(x));
    }

    static void p18_thoseBehindGoOneDown() {
        FewTypes x = shop("ma1,b,mc2,d", "abcd");
        due(1, x.make(1));
        dueText("b,mc1,d", typesOf(x));
        x = shop("ma1,mb1,c", "abc");
        x.make(1);
        dueText("c", typesOf(x));
        x = shop("a,mb1,mc1", "abc");
        x.make(1);
        dueText("a", typesOf(x));
        x = shop("ma1,ma1,ma1,ma1,ma1,ma1,ma1,ma1,ma1,ma1", "aaaaaaaaaa");
        due(1, x.make(1));
        dueText("", typesOf(x));
    }

    static void p18_onlySoapWears() {
        FewTypes x = shop("a,tbc,nde", "abde");
        x.make(99);
        dueText("a,tbc,nde", typesOf(x));
    }

    static void p18_thePlanBehindItIsFoundAnew() {
        FewTypes x = shop("ma2,a", "aa");
        due(1, x.fewest());
        x.make(1);
        due(1, x.fewest());
        x.make(1);
        due(2, x.fewest());
        dueText("1 2", planOf(x));
    }

    static void p18_onlyThePullsOfThisPlanWear() {
        FewTypes x = shop("ma9", "aaaa");
        due(4, x.fewest());
        line(x, "a");
        x.make(2);
        dueText("ma7", typesOf(x));
        line(x, "aaa");
        x.make(1);
        dueText("ma4", typesOf(x));
        x = shop("ma9,b", "abbb");
        dueText("2 4 9", planOf(x));
        line(x, "aab");
        dueText("1 6", planOf(x));
        x.make(1);
        dueText("ma7,b", typesOf(x));
    }

    static void p18_whatWasAskedBeforeCountsForNothing() {
        FewTypes x = shop("ma9,mb9,nab", "b_b_b_a");
        x.text(0);
        line(x, "ab");
        due(1, x.fewest());
        due(3, x.needs(0));
        x.make(1);
        dueText("ma8,mb8,nab", typesOf(x));
    }

    static void p18_allElseStays() {
        FewTypes x = richWithoutSoapInUse();
        FewTypes y = richWithoutSoapInUse();
        due(2, x.make(6));
        dueText(stateOf(y), stateOf(x));
    }

    private static FewTypes richWithoutSoapInUse() {
        FewTypes x = rich();
        x.line();
        line(x, "aba");
        x.rule(0, 0);
        return x;
    }

    static void p18_refusedChangesNothing() {
        same(BAD, x -> x.make(0));
        same(BAD, x -> x.make(100));
        same(NONE, Sentences2Pulls::richOfALineThatCant, x -> x.make(1));
        same(NOT, Sentences::richWithoutLine, x -> x.make(1));
    }
}
