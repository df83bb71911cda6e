/** Promises 1 to 11: types, widths, rules, the tape, lines, cases; each sentence that names a boundary by itself. */
public final class Sentences1Types extends Sentences {
    private static final String TEN_TYPES = "a,tab,nab,ma1,b,tbc,nbb,mb9,c,l";

    public static void main(String[] args) {
        runAll(Sentences1Types.class, 1, 11);
    }

    private static FewTypes richWithTenTypes() {
        FewTypes x = rich();
        for (int i = 5; i < 10; i++) {
            x.cast(3, i, i);
        }
        return x;
    }

    private static FewTypes richWithFullTape() {
        FewTypes x = rich();
        tape(x, "b".repeat(58));
        return x;
    }

    // ---- 1: "No type, no line."

    static void p01_noType() {
        FewTypes x = new FewTypes();
        due(0, x.count(0));
        due(BAD, x.told(0, 0));
        due(BAD, x.lose(0));
        due(BAD, x.lost(0));
        due(0, x.cast(0, 0, 0));
    }

    static void p01_noLine() {
        FewTypes x = new FewTypes();
        due(0, x.count(1));
        due(0, x.count(2));
        due(BAD, x.place(0, 0));
        due(BAD, x.can(1));
        due(BAD, x.by(1, 0));
        due(NOT, x.fewest());
        due(NOT, x.plan(0));
        due(NOT, x.bound());
        due(NOT, x.order(0));
        due(NOT, x.make(1));
        due(NOT, x.text(0));
    }

    static void p01_noTextNoJobNoImage() {
        FewTypes x = new FewTypes();
        due(0, x.count(3));
        due(0, x.count(4));
        due(0, x.done());
        due(BAD, x.needs(0));
        due(NONE, x.restore());
        due(0, x.clear());
    }

    static void p01_widthsAre2AtFirst() {
        FewTypes x = new FewTypes();
        for (int letter = 0; letter < 12; letter++) {
            due(2, x.width(letter, 1));
        }
        FewTypes y = lineOnly("abcdef");
        due(12, y.count(2));
        line(y, "ghijkl");
        due(12, y.count(2));
    }

    static void p01_rulesAre0And0And4AtFirst() {
        FewTypes x = new FewTypes();
        due(0, x.rule(0, 1));
        due(0, x.rule(1, 1));
        due(4, x.rule(2, 1));
        FewTypes y = shop("a,b", "aba");
        due(1, y.can(3));
        due(0, y.order(-1));
        due(2, y.make(4));
        due(4, y.make(5));
    }

    static void p01_theTapeIsEmpty() {
        due(-20, new FewTypes().line());
        due(-20, new FewTypes().types());
        due(1, new FewTypes().type('a', 1));
    }

    static void p01_sheetsAreNothingAtFirst() {
        FewTypes x = new FewTypes();
        for (int sheet = 0; sheet < 4; sheet++) {
            due(NULL, x.drop(sheet));
            due(NULL, x.item(sheet, 0, 0, 0));
        }
    }

    static void p01_aNewObjectIsByItself() {
        String first = stateOf(new FewTypes());
        FewTypes other = rich();
        dueText(first, stateOf(new FewTypes()));
        dueText(stateOf(rich()), stateOf(other));
    }

    // ---- 2: cast

    static void p02_theNumbersAreAsTheyCome() {
        FewTypes x = new FewTypes();
        for (int i = 0; i < 10; i++) {
            due(i, x.cast(0, i, 0));
        }
        dueText("a,b,c,d,e,f,g,h,i,j", typesOf(x));
    }

    static void p02_kindIs0To3() {
        FewTypes x = new FewTypes();
        due(BAD, x.cast(-1, 0, 1));
        due(BAD, x.cast(-1, 0, 0));
        due(0, x.cast(0, 0, 0));
        due(1, x.cast(1, 0, 1));
        due(2, x.cast(2, 0, 1));
        due(3, x.cast(3, 0, 1));
        due(BAD, x.cast(4, 0, 1));
        due(BAD, x.cast(4, 0, 0));
        due(BAD, x.cast(LOWEST, 0, 0));
        due(BAD, x.cast(HIGHEST, 0, 1));
        due(BAD, x.cast(256, 0, 0));
        dueText("a,tab,nab,ma1", typesOf(x));
    }

    static void p02_letterIs0To11OfEachKind() {
        int[] more = {0, 5, 5, 5};
        for (int kind = 0; kind < 4; kind++) {
            FewTypes x = new FewTypes();
            due(BAD, x.cast(kind, -1, more[kind]));
            due(0, x.cast(kind, 0, more[kind]));
            due(1, x.cast(kind, 11, more[kind]));
            due(BAD, x.cast(kind, 12, more[kind]));
            due(BAD, x.cast(kind, LOWEST, more[kind]));
            due(BAD, x.cast(kind, HIGHEST, more[kind]));
            due(BAD, x.cast(kind, 256, more[kind]));
            due(2, x.count(0));
            due(0, x.told(0, 1));
            due(11, x.told(1, 1));
        }
    }

    static void p02_moreOfPlainIs0() {
        FewTypes x = new FewTypes();
        due(BAD, x.cast(0, 3, -1));
        due(0, x.cast(0, 3, 0));
        due(BAD, x.cast(0, 3, 1));
        due(BAD, x.cast(0, 3, 3));
        due(BAD, x.cast(0, 3, 256));
        due(1, x.count(0));
    }

    static void p02_moreOfTurnedIsALetter() {
        FewTypes x = new FewTypes();
        due(BAD, x.cast(1, 3, -1));
        due(0, x.cast(1, 3, 0));
        due(1, x.cast(1, 3, 11));
        due(BAD, x.cast(1, 3, 12));
        due(BAD, x.cast(1, 3, LOWEST));
        due(BAD, x.cast(1, 3, HIGHEST));
        dueText("tda,tdl", typesOf(x));
    }

    static void p02_aTurnedOneOfLikeLettersIsBad() {
        FewTypes x = new FewTypes();
        for (int letter = 0; letter < 12; letter++) {
            due(BAD, x.cast(1, letter, letter));
        }
        due(0, x.count(0));
        due(0, x.cast(1, 4, 5));
        due(1, x.cast(1, 5, 4));
    }

    static void p02_moreOfJoinedIsALetter() {
        FewTypes x = new FewTypes();
        due(BAD, x.cast(2, 3, -1));
        due(0, x.cast(2, 3, 0));
        due(1, x.cast(2, 3, 11));
        due(BAD, x.cast(2, 3, 12));
        due(BAD, x.cast(2, 3, LOWEST));
        due(BAD, x.cast(2, 3, HIGHEST));
        dueText("nda,ndl", typesOf(x));
    }

    static void p02_aJoinedOneMayBeOfTheSameLetter() {
        for (int letter = 0; letter < 12; letter++) {
            FewTypes x = new FewTypes();
            due(0, x.cast(2, letter, letter));
            due(letter, x.told(0, 2));
        }
    }

    static void p02_soapLasts1To9Pulls() {
        FewTypes x = new FewTypes();
        due(BAD, x.cast(3, 3, 0));
        due(BAD, x.cast(3, 3, -1));
        for (int i = 0; i < 9; i++) {
            due(i, x.cast(3, 3, i + 1));
            due(i + 1, x.told(i, 2));
        }
        due(BAD, x.cast(3, 3, 10));
        due(BAD, x.cast(3, 3, LOWEST));
        due(BAD, x.cast(3, 3, HIGHEST));
        due(9, x.count(0));
    }

    static void p02_tenAreFull() {
        FewTypes x = new FewTypes();
        for (int i = 0; i < 9; i++) {
            x.cast(2, 1, 1);
        }
        due(9, x.cast(0, 11, 0));
        due(FULL, x.cast(0, 0, 0));
        due(FULL, x.cast(1, 0, 1));
        due(FULL, x.cast(2, 0, 0));
        due(FULL, x.cast(3, 0, 1));
        due(10, x.count(0));
        due(11, x.told(9, 1));
        x.lose(0);
        due(9, x.cast(0, 5, 0));
        due(FULL, x.cast(0, 5, 0));
    }

    static void p02_aCaseOfTenIsFullToo() {
        FewTypes x = typesOnly(TEN_TYPES);
        due(FULL, x.cast(0, 0, 0));
        types(x, "a,b");
        due(2, x.cast(0, 2, 0));
        dueText("a,b,c", typesOf(x));
    }

    static void p02_badAheadOfFull() {
        FewTypes x = typesOnly(TEN_TYPES);
        due(BAD, x.cast(4, 0, 0));
        due(BAD, x.cast(0, 12, 0));
        due(BAD, x.cast(0, 0, 1));
        due(BAD, x.cast(1, 2, 2));
        due(BAD, x.cast(2, 2, 12));
        due(BAD, x.cast(3, 2, 10));
    }

    static void p02_refusedChangesNothing() {
        same(BAD, x -> x.cast(4, 0, 0));
        same(BAD, x -> x.cast(0, 12, 0));
        same(BAD, x -> x.cast(0, 3, 1));
        same(BAD, x -> x.cast(1, 3, 3));
        same(BAD, x -> x.cast(2, 3, 12));
        same(BAD, x -> x.cast(3, 3, 0));
        same(FULL, Sentences1Types::richWithTenTypes, x -> x.cast(0, 3, 0));
    }

    // ---- 3: told

    static void p03_theTypeIsOneThatIsThere() {
        FewTypes x = typesOnly("a,b,c");
        for (int what = 0; what < 3; what++) {
            due(BAD, x.told(-1, what));
            due(BAD, x.told(3, what));
            due(BAD, x.told(10, what));
            due(BAD, x.told(LOWEST, what));
            due(BAD, x.told(HIGHEST, what));
        }
        due(0, x.told(0, 1));
        due(2, x.told(2, 1));
        x.lose(0);
        due(BAD, x.told(2, 1));
        x = typesOnly(TEN_TYPES);
        due(11, x.told(9, 1));
        due(BAD, x.told(10, 1));
    }

    static void p03_whatIs0To2() {
        FewTypes x = typesOnly("md7");
        due(BAD, x.told(0, -1));
        due(3, x.told(0, 0));
        due(3, x.told(0, 1));
        due(7, x.told(0, 2));
        due(BAD, x.told(0, 3));
        due(BAD, x.told(0, LOWEST));
        due(BAD, x.told(0, HIGHEST));
    }

    static void p03_kindLetterMoreOfEachKind() {
        FewTypes x = new FewTypes();
        int[][] all = {{0, 4, 0}, {1, 11, 0}, {2, 0, 11}, {2, 6, 6}, {3, 5, 9}};
        for (int i = 0; i < all.length; i++) {
            x.cast(all[i][0], all[i][1], all[i][2]);
        }
        for (int i = 0; i < all.length * 3; i++) {
            due(all[i / 3][i % 3], x.told(i / 3, i % 3));
        }
    }

    static void p03_moreOfSoapIsWhatIsLeft() {
        FewTypes x = shop("ma9", "a");
        due(9, x.told(0, 2));
        x.make(1);
        due(8, x.told(0, 2));
        x.make(7);
        due(1, x.told(0, 2));
    }

    static void p03_toldChangesNothing() {
        same(3, x -> x.told(3, 0));
        same(BAD, x -> x.told(5, 0));
        same(BAD, x -> x.told(0, 3));
    }

    // ---- 4: lose

    static void p04_theTypeIsOneThatIsThere() {
        FewTypes x = typesOnly("a,b,c");
        due(BAD, x.lose(-1));
        due(BAD, x.lose(3));
        due(BAD, x.lose(LOWEST));
        due(BAD, x.lose(HIGHEST));
        due(2, x.lose(2));
        due(BAD, x.lose(2));
        due(1, x.lose(0));
        due(BAD, x.lose(1));
        due(0, x.lose(0));
        due(BAD, x.lose(0));
    }

    static void p04_itAnswersHowManyAreLeft() {
        FewTypes x = typesOnly(TEN_TYPES);
        for (int left = 9; left >= 0; left--) {
            due(left, x.lose(0));
            due(left, x.count(0));
        }
    }

    static void p04_thoseBehindGoOneDown() {
        FewTypes x = typesOnly("a,tbc,nde,mf3");
        x.lose(1);
        dueText("a,nde,mf3", typesOf(x));
        x.lose(0);
        dueText("nde,mf3", typesOf(x));
        x.lose(1);
        dueText("nde", typesOf(x));
    }

    static void p04_theLastOfTen() {
        FewTypes x = typesOnly(TEN_TYPES);
        due(9, x.lose(9));
        dueText("a,tab,nab,ma1,b,tbc,nbb,mb9,c", typesOf(x));
    }

    static void p04_whatIsGonePrintsNoMore() {
        FewTypes x = shop("a,b", "ab");
        due(1, x.fewest());
        x.lose(0);
        due(0, x.can(1));
        due(1, x.can(2));
        due(NONE, x.fewest());
    }

    static void p04_refusedChangesNothing() {
        same(BAD, x -> x.lose(5));
        same(BAD, x -> x.lose(-1));
    }

    // ---- 5: width

    static void p05_letterIs0To11() {
        FewTypes x = new FewTypes();
        due(BAD, x.width(-1, 3));
        due(2, x.width(0, 3));
        due(2, x.width(11, 3));
        due(BAD, x.width(12, 3));
        due(BAD, x.width(LOWEST, 3));
        due(BAD, x.width(HIGHEST, 3));
        due(BAD, x.width(256, 3));
    }

    static void p05_widthIs1To4() {
        FewTypes x = new FewTypes();
        due(BAD, x.width(5, 0));
        due(2, x.width(5, 1));
        due(1, x.width(5, 4));
        due(BAD, x.width(5, 5));
        due(BAD, x.width(5, -1));
        due(BAD, x.width(5, LOWEST));
        due(BAD, x.width(5, HIGHEST));
        due(BAD, x.width(5, 257));
        due(4, x.width(5, 4));
    }

    static void p05_itAnswersWhatItWas() {
        FewTypes x = new FewTypes();
        int was = 2;
        for (int v : new int[] {1, 2, 3, 4, 4, 1}) {
            due(was, x.width(7, v));
            was = v;
        }
    }

    static void p05_eachLetterHasItsOwn() {
        FewTypes x = new FewTypes();
        for (int letter = 0; letter < 12; letter++) {
            x.width(letter, 1 + letter % 4);
        }
        for (int letter = 0; letter < 12; letter++) {
            due(1 + letter % 4, x.width(letter, 2));
        }
    }

    static void p05_aToldLineIsAsWideAtOnce() {
        FewTypes x = lineOnly("aba");
        x.width(0, 4);
        due(4, x.place(1, 1));
        due(6, x.place(2, 1));
        due(10, x.count(2));
        x.width(0, 1);
        due(1, x.place(1, 1));
        due(4, x.count(2));
    }

    static void p05_refusedChangesNothing() {
        same(BAD, x -> x.width(12, 3));
        same(BAD, x -> x.width(-1, 3));
        same(BAD, x -> x.width(0, 0));
        same(BAD, x -> x.width(0, 5));
    }

    // ---- 6: rule

    static void p06_whatIs0To2() {
        FewTypes x = new FewTypes();
        due(BAD, x.rule(-1, 1));
        due(0, x.rule(0, 1));
        due(0, x.rule(1, 1));
        due(4, x.rule(2, 1));
        due(BAD, x.rule(3, 1));
        due(BAD, x.rule(LOWEST, 1));
        due(BAD, x.rule(HIGHEST, 1));
    }

    static void p06_wedgesAre0Or1() {
        FewTypes x = new FewTypes();
        due(BAD, x.rule(0, -1));
        due(0, x.rule(0, 0));
        due(0, x.rule(0, 1));
        due(BAD, x.rule(0, 2));
        due(BAD, x.rule(0, LOWEST));
        due(BAD, x.rule(0, HIGHEST));
        due(1, x.rule(0, 0));
    }

    static void p06_creepIs0To3() {
        FewTypes x = new FewTypes();
        due(BAD, x.rule(1, -1));
        due(0, x.rule(1, 0));
        due(0, x.rule(1, 3));
        due(BAD, x.rule(1, 4));
        due(BAD, x.rule(1, LOWEST));
        due(BAD, x.rule(1, HIGHEST));
        due(3, x.rule(1, 0));
    }

    static void p06_dampIs1To9() {
        FewTypes x = new FewTypes();
        due(BAD, x.rule(2, 0));
        due(BAD, x.rule(2, -1));
        due(4, x.rule(2, 1));
        due(1, x.rule(2, 9));
        due(BAD, x.rule(2, 10));
        due(BAD, x.rule(2, LOWEST));
        due(BAD, x.rule(2, HIGHEST));
        due(9, x.rule(2, 9));
    }

    static void p06_itAnswersWhatItWas() {
        FewTypes x = new FewTypes();
        int[] was = {0, 0, 4};
        int[][] puts = {{0, 1}, {1, 3}, {2, 8}, {0, 0}, {1, 2}, {2, 1}, {0, 0}, {1, 2}, {2, 1}};
        for (int[] put : puts) {
            due(was[put[0]], x.rule(put[0], put[1]));
            was[put[0]] = put[1];
        }
    }

    static void p06_refusedChangesNothing() {
        same(BAD, x -> x.rule(3, 1));
        same(BAD, x -> x.rule(-1, 1));
        same(BAD, x -> x.rule(0, 2));
        same(BAD, x -> x.rule(1, 4));
        same(BAD, x -> x.rule(2, 0));
        same(BAD, x -> x.rule(2, 10));
    }

    // ---- 7: type

    static void p07_nIs1To8() {
        long w = 0x6162636465666768L;
        FewTypes x = new FewTypes();
        due(BAD, x.type(w, 0));
        due(BAD, x.type(w, -1));
        due(BAD, x.type(w, 9));
        due(BAD, x.type(w, LOWEST));
        due(BAD, x.type(w, HIGHEST));
        due(BAD, x.type(w, 257));
        due(-20, x.line());
        for (int n = 1; n <= 8; n++) {
            FewTypes y = new FewTypes();
            due(n, y.type(w, n));
            due(n, y.line());
        }
    }

    static void p07_theLowestBytesTheHighestFirst() {
        FewTypes x = new FewTypes();
        x.type(0x6162636465666768L, 8);
        x.line();
        dueText("abcdefgh", lineOf(x));
        x.type(0x6162636465666768L, 3);
        x.line();
        dueText("fgh", lineOf(x));
        x.type(0x6162636465666768L, 1);
        x.line();
        dueText("h", lineOf(x));
    }

    static void p07_bytesAboveTheNAreFree() {
        FewTypes x = new FewTypes();
        due(1, x.type(0xFFFFFFFFFFFFFF61L, 1));
        due(2, x.type(0x62L, 1));
        due(9, x.type(0x0063646162636465L, 7));
        due(3, new FewTypes().type(0x1F7F80FF00616263L, 3));
        due(9, x.line());
        dueText("abcdabcde", lineOf(x));
    }

    static void p07_theyComeBehindTheTape() {
        FewTypes x = new FewTypes();
        due(2, x.type(0x6162L, 2));
        due(3, x.type(0x63L, 1));
        due(6, x.type(0x646566L, 3));
        due(6, x.line());
        dueText("abcdef", lineOf(x));
    }

    static void p07_aByteIs32To126() {
        FewTypes x = new FewTypes();
        due(BAD, x.type(31, 1));
        due(1, x.type(32, 1));
        due(2, x.type(126, 1));
        due(BAD, x.type(127, 1));
        due(BAD, x.type(128, 1));
        due(BAD, x.type(255, 1));
        due(BAD, x.type(0, 1));
        due(BAD, x.type(-1, 1));
        due(3, x.type(256 + 97, 1));
    }

    static void p07_eachOfTheNBytesIsLookedAt() {
        for (int n = 1; n <= 8; n++) {
            for (int i = 0; i < n; i++) {
                long good = 0x6161616161616161L & ~(255L << 8 * i);
                FewTypes x = new FewTypes();
                for (long b : new long[] {0, 31, 127, 128, 255}) {
                    due(BAD, x.type(good | b << 8 * i, n));
                }
                due(n, x.type(good | 32L << 8 * i, n));
                due(2 * n, x.type(good | 126L << 8 * i, n));
            }
        }
    }

    static void p07_sixtyAreFull() {
        for (int n = 1; n <= 8; n++) {
            FewTypes x = new FewTypes();
            due(60 - n, tape(x, "a".repeat(60 - n)));
            if (n < 8) {
                due(FULL, x.type(0x6161616161616161L, n + 1));
            }
            due(60, x.type(0x6161616161616161L, n));
            for (int m = 1; m <= 8; m++) {
                due(FULL, x.type(0x6161616161616161L, m));
            }
        }
    }

    static void p07_noneComeIfNotAllCan() {
        FewTypes x = new FewTypes();
        tape(x, " ".repeat(58));
        due(FULL, x.type(0x616161L, 3));
        due(59, x.type(0x61L, 1));
        due(FULL, x.type(0x6161L, 2));
        due(60, x.type(0x62L, 1));
        due(2, x.line());
        dueText("ab", lineOf(x));
    }

    static void p07_aFullTapeIsEmptyBehindALineOrACase() {
        FewTypes x = new FewTypes();
        tape(x, "a".repeat(60));
        due(FULL, x.type(0x61L, 1));
        due(-30, x.line());
        due(60, tape(x, "a".repeat(60)));
        due(-21, x.types());
        due(1, x.type(0x61L, 1));
    }

    static void p07_badAheadOfFull() {
        FewTypes x = new FewTypes();
        tape(x, "a".repeat(60));
        due(BAD, x.type(0x61L, 0));
        due(BAD, x.type(0x61L, 9));
        due(BAD, x.type(0x1FL, 1));
        due(BAD, x.type(0x7FL, 1));
        due(FULL, x.type(0x61L, 1));
    }

    static void p07_refusedChangesNothing() {
        same(BAD, x -> x.type(0x61L, 0));
        same(BAD, x -> x.type(0x6161616161616161L, 9));
        same(BAD, x -> x.type(0x611F61L, 3));
        same(BAD, x -> x.type(0x61617FL, 3));
        same(FULL, Sentences1Types::richWithFullTape, x -> x.type(0x61L, 1));
    }

    // ---- 8: line

    /** A fault leaves the told line and all else, but the tape is empty then. */
    private static void lineFault(String text, int at) {
        FewTypes x = lineOnly("ab_c");
        x.width(2, 4);
        due(-20 - at, line(x, text));
        dueText("ab_c", lineOf(x));
        due(10, x.count(2));
        due(1, x.type('a', 1));
    }

    private static void lineTaken(String text, String read) {
        FewTypes x = lineOnly("ab_c");
        due(read.replace("_", "").length(), line(x, text));
        dueText(read, lineOf(x));
        due(1, x.type('a', 1));
    }

    static void p08_theEmptyTapeEndsTooSoon() {
        lineFault("", 0);
    }

    static void p08_blanksAloneEndTooSoon() {
        lineFault(" ", 1);
        lineFault("     ", 5);
        lineFault(" ".repeat(60), 60);
    }

    static void p08_oneToTenLetters() {
        for (int n = 1; n <= 10; n++) {
            lineTaken("abcdefghij".substring(0, n), "abcdefghij".substring(0, n));
        }
        lineFault("abcdefghijk", 10);
        lineFault("aaaaaaaaaaaaaaaaaaaaaa", 10);
    }

    static void p08_tenWithAllBlanksBetween() {
        lineTaken("a_b_c_d_e_f_g_h_i_j", "a_b_c_d_e_f_g_h_i_j");
        lineFault("a_b_c_d_e_f_g_h_i_j_k", 19);
        lineFault("a_b_c_d_e_f_g_h_i_jk", 19);
    }

    static void p08_lettersAreAToL() {
        lineTaken("abcdef", "abcdef");
        lineTaken("ghijkl", "ghijkl");
        lineFault("m", 0);
        lineFault("`", 0);
        lineFault("am", 1);
        lineFault("a`", 1);
        lineFault("A", 0);
        lineFault("aL", 1);
    }

    static void p08_noOtherByteCanStandThere() {
        for (char c = 33; c <= 126; c++) {
            if (c != '_' && (c < 'a' || c > 'l')) {
                due(-21, line(new FewTypes(), "a" + c + "b"));
            }
        }
    }

    static void p08_aBlankIsNotFirst() {
        lineFault("_", 0);
        lineFault("_a", 0);
        lineFault("  _a", 2);
    }

    static void p08_aBlankIsNotLast() {
        lineFault("a_", 2);
        lineFault("ab_c_", 5);
        lineFault("a_   ", 5);
        lineFault("a _ ", 4);
    }

    static void p08_notTwoBlanksOneBehindTheOther() {
        lineFault("a__b", 2);
        lineFault("a_ _b", 3);
        lineFault("a_b__", 4);
        lineTaken("a_b_c", "a_b_c");
    }

    static void p08_behindTheTenthLetterNothingStands() {
        lineFault("abcdefghij_", 10);
        lineFault("abcdefghij_k", 10);
        lineFault("abcdefghij  _", 12);
        lineFault("abcdefghij  k", 12);
        lineTaken("abcdefghij    ", "abcdefghij");
        lineTaken("abcdefghi_j", "abcdefghi_j");
    }

    static void p08_bytes32CountForNothing() {
        lineTaken("  a  b _ c  ", "ab_c");
        lineTaken("a b", "ab");
        FewTypes x = lineOnly("a b");
        due(1, x.place(0, 2));
        due(2, x.place(1, 1));
    }

    static void p08_theFaultsPlaceCountsAllBytes() {
        lineFault("   m", 3);
        lineFault(" a  b  1", 7);
        lineFault("a  ,", 3);
    }

    static void p08_theLastFaultOfAFullTape() {
        lineFault("a" + " ".repeat(58) + "_", 60);
        lineFault("a" + " ".repeat(58) + "m", 59);
        lineTaken("a" + " ".repeat(59), "a");
        lineTaken(" ".repeat(59) + "l", "l");
        lineTaken("a_b_c_d_e_f_g_h_i_" + " ".repeat(41) + "j", "a_b_c_d_e_f_g_h_i_j");
    }

    static void p08_aFaultLeavesAllElse() {
        FewTypes x = rich();
        x.line();
        FewTypes y = rich();
        y.line();
        tape(x, "a_m");
        due(-22, x.line());
        dueText(stateOf(y), stateOf(x));
        due(-20, new FewTypes().line());
        due(NOT, lineOnly("_").fewest());
    }

    static void p08_aLineComesInPlaceOfThatTold() {
        FewTypes x = shop("a,b,c", "a_b_c");
        due(1, x.fewest());
        due(2, line(x, "aa"));
        dueText("aa", lineOf(x));
        due(BAD, x.place(2, 0));
        due(2, x.fewest());
        due(4, x.count(2));
    }

    // ---- 9: types

    private static void caseFault(String text, int at) {
        FewTypes x = typesOnly("a,tbc,nde,mf3");
        due(-20 - at, types(x, text));
        dueText("a,tbc,nde,mf3", typesOf(x));
        due(1, x.type('a', 1));
    }

    private static void caseTaken(String text, String read) {
        FewTypes x = typesOnly("a,tbc,nde,mf3");
        due(read.split(",").length, types(x, text));
        dueText(read, typesOf(x));
        due(1, x.type('a', 1));
    }

    static void p09_theEmptyTapeEndsTooSoon() {
        caseFault("", 0);
        caseFault("   ", 3);
        caseFault(" ".repeat(60), 60);
    }

    static void p09_oneToTenTypes() {
        String ten = "a,b,c,d,e,f,g,h,i,j";
        for (int n = 1; n <= 10; n++) {
            caseTaken(ten.substring(0, 2 * n - 1), ten.substring(0, 2 * n - 1));
        }
        caseFault(ten + ",k", 19);
        caseFault(ten + ",", 19);
        caseFault(ten + "  ,", 21);
        caseTaken(ten + "  ", ten);
    }

    static void p09_tenOfThreeBytes() {
        String ten = "tab,nab,ma1,tbc,nbb,mb9,tkl,nll,ml5,tla";
        caseTaken(ten, ten);
        caseFault(ten + ",a", 39);
        caseFault(ten + "a", 39);
    }

    static void p09_aPlainOneIsALetterAToL() {
        caseTaken("a,b,c,d,e,f", "a,b,c,d,e,f");
        caseTaken("g,h,i,j,k,l", "g,h,i,j,k,l");
        caseFault("`", 0);
        caseFault("o", 0);
        caseFault("A", 0);
        caseFault("1", 0);
        caseFault("_", 0);
        caseFault("a,o", 2);
    }

    static void p09_noOtherByteBegins() {
        for (char c = 33; c <= 126; c++) {
            if (c != 't' && c != 'n' && c != 'm' && (c < 'a' || c > 'l')) {
                due(-22, types(new FewTypes(), "a," + c + "ab"));
            }
        }
    }

    static void p09_turnedIsOfTwoUnlikeLetters() {
        caseTaken("tab,tla,tkl", "tab,tla,tkl");
        caseFault("taa", 2);
        caseFault("tll", 2);
        caseFault("t a a", 4);
        caseFault("tma", 1);
        caseFault("t`a", 1);
        caseFault("tam", 2);
        caseFault("ta`", 2);
        caseFault("ta1", 2);
        caseFault("t1a", 1);
        caseFault("tta", 1);
    }

    static void p09_joinedIsOfTwoLetters() {
        caseTaken("nab,nla,nkl", "nab,nla,nkl");
        caseTaken("naa,nll", "naa,nll");
        caseFault("nma", 1);
        caseFault("n`a", 1);
        caseFault("nam", 2);
        caseFault("na`", 2);
        caseFault("na1", 2);
        caseFault("nna", 1);
    }

    static void p09_soapIsOfALetterAndADigit1To9() {
        caseTaken("ma1,ml9,mk5", "ma1,ml9,mk5");
        caseFault("ma0", 2);
        caseFault("ma:", 2);
        caseFault("ma/", 2);
        caseFault("mab", 2);
        caseFault("mm1", 1);
        caseFault("m`1", 1);
        caseFault("m1a", 1);
        caseFault("ma10", 3);
    }

    static void p09_theEndCanComeTooSoon() {
        caseFault("t", 1);
        caseFault("ta", 2);
        caseFault("n", 1);
        caseFault("na", 2);
        caseFault("m", 1);
        caseFault("ma", 2);
        caseFault("a,", 2);
        caseFault("a,t", 3);
        caseFault("t  ", 3);
        caseFault("ta  ", 4);
        caseFault("a ,  ", 5);
        caseFault("a,b,", 4);
    }

    static void p09_commasStandBetween() {
        caseFault("ab", 1);
        caseFault("a b", 2);
        caseFault("a;b", 1);
        caseFault("tabc", 3);
        caseFault("ma1b", 3);
        caseFault("naab", 3);
        caseFault(",a", 0);
        caseFault("a,,b", 2);
        caseFault("a, ,b", 3);
        caseFault("t,ab", 1);
        caseFault("ta,b", 2);
        caseFault("m,a1", 1);
    }

    static void p09_bytes32CountForNothing() {
        caseTaken("  a , t b c ,n  d d,m e 9  ", "a,tbc,ndd,me9");
        caseFault("  a , t b b", 10);
        caseFault("    o", 4);
    }

    static void p09_theLastFaultOfAFullTape() {
        caseFault("a" + " ".repeat(58) + ",", 60);
        caseFault("a" + " ".repeat(58) + "b", 59);
        caseTaken("a" + " ".repeat(59), "a");
        caseTaken(" ".repeat(57) + "ma9", "ma9");
    }

    static void p09_aFaultLeavesAllElse() {
        FewTypes x = rich();
        x.types();
        FewTypes y = rich();
        y.types();
        tape(x, "a,b,o");
        due(-24, x.types());
        dueText(stateOf(y), stateOf(x));
        FewTypes z = new FewTypes();
        due(-22, types(z, "a,o"));
        due(0, z.count(0));
    }

    static void p09_theyComeInPlaceOfThoseTold() {
        FewTypes x = shop("a,b,c,d", "ab");
        due(1, x.fewest());
        due(1, types(x, "b"));
        dueText("b", typesOf(x));
        due(BAD, x.told(1, 0));
        due(NONE, x.fewest());
        due(1, x.cast(0, 0, 0));
    }

    // ---- 10: place

    static void p10_thePlaceIsOneOfTheLine() {
        FewTypes x = lineOnly("abc");
        for (int what = 0; what < 3; what++) {
            due(BAD, x.place(-1, what));
            due(BAD, x.place(3, what));
            due(BAD, x.place(9, what));
            due(BAD, x.place(LOWEST, what));
            due(BAD, x.place(HIGHEST, what));
        }
        due(0, x.place(0, 0));
        due(2, x.place(2, 0));
        line(x, "abcdefghij");
        due(9, x.place(9, 0));
        due(BAD, x.place(10, 0));
    }

    static void p10_whatIs0To2() {
        FewTypes x = lineOnly("cd");
        due(BAD, x.place(0, -1));
        due(2, x.place(0, 0));
        due(0, x.place(0, 1));
        due(1, x.place(0, 2));
        due(BAD, x.place(0, 3));
        due(BAD, x.place(0, LOWEST));
        due(BAD, x.place(0, HIGHEST));
    }

    static void p10_withoutALineThereIsNoPlace() {
        FewTypes x = new FewTypes();
        for (int what = 0; what < 3; what++) {
            due(BAD, x.place(0, what));
        }
    }

    static void p10_leftIsAllLettersAndBlanksAhead() {
        FewTypes x = lineOnly("a_bc_d");
        x.width(0, 1);
        x.width(1, 3);
        x.width(2, 4);
        int[] left = {0, 3, 6, 12};
        for (int place = 0; place < 4; place++) {
            due(left[place], x.place(place, 1));
        }
        due(14, x.count(2));
    }

    static void p10_theGreatestAndTheLeastLeft() {
        FewTypes x = lineOnly("a_a_a_a_a_a_a_a_a_a");
        x.width(0, 4);
        due(54, x.place(9, 1));
        x.width(0, 1);
        due(27, x.place(9, 1));
        line(x, "aaaaaaaaaa");
        due(9, x.place(9, 1));
        due(0, x.place(0, 1));
    }

    static void p10_besideTheNextOne() {
        FewTypes x = lineOnly("ab_cd_e_f");
        int[] beside = {1, 0, 1, 0, 0, 0};
        for (int place = 0; place < 6; place++) {
            due(beside[place], x.place(place, 2));
        }
    }

    static void p10_theLastPlaceHasNoNextOne() {
        due(0, lineOnly("a").place(0, 2));
        due(0, lineOnly("ab").place(1, 2));
        due(0, lineOnly("abcdefghij").place(9, 2));
        due(1, lineOnly("abcdefghij").place(8, 2));
        FewTypes x = lineOnly("abc");
        line(x, "ab");
        due(0, x.place(1, 2));
    }

    static void p10_placeChangesNothing() {
        same(3, x -> x.place(1, 1));
        same(BAD, x -> x.place(5, 0));
        same(BAD, x -> x.place(0, 3));
    }

    // ---- 11: count

    static void p11_whatIs0To4() {
        FewTypes x = shop("a,b,c", "ab_cd");
        x.text(0);
        x.text(0);
        x.job(1, 1);
        due(BAD, x.count(-1));
        due(3, x.count(0));
        due(4, x.count(1));
        due(10, x.count(2));
        due(2, x.count(3));
        due(1, x.count(4));
        due(BAD, x.count(5));
        due(BAD, x.count(LOWEST));
        due(BAD, x.count(HIGHEST));
    }

    static void p11_allFull() {
        FewTypes x = shop(TEN_TYPES, "a_a_a_a_a_a_a_a_a_a");
        x.width(0, 4);
        for (int i = 0; i < 9; i++) {
            x.text(0);
            x.job(1, 1);
        }
        int[] want = {10, 10, 58, 8, 8};
        for (int what = 0; what < 5; what++) {
            due(want[what], x.count(what));
        }
    }

    static void p11_hairsOfTheNarrowestLine() {
        FewTypes x = lineOnly("l");
        due(2, x.count(2));
        x.width(11, 1);
        due(1, x.count(2));
        due(0, new FewTypes().count(2));
    }

    static void p11_hairsHaveTheLastLetterAndAllBlanks() {
        FewTypes x = lineOnly("a_b");
        x.width(1, 4);
        due(8, x.count(2));
    }

    static void p11_countChangesNothing() {
        same(5, x -> x.count(0));
        same(BAD, x -> x.count(5));
    }
}
