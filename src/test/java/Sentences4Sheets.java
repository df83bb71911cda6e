/** Promises 28 to 33: leaves, marks that are alike, sheets; each sentence that names a boundary by itself. */
public final class Sentences4Sheets extends Sentences {
    private static final int[] BEYOND_SHEETS = {-1, 4, LOWEST, HIGHEST}, BEYOND_LANES = {-1, 3, LOWEST, HIGHEST};

    public static void main(String[] args) {
        runAll(Sentences4Sheets.class, 28, 33);
    }

    private static FewTypes creeping(String types, String line, int creep) {
        FewTypes x = shop(types, line);
        x.rule(1, creep);
        return x;
    }

    /** By how many pulls a leaf is made that is given whole. */
    private static int made(FewTypes x, int... leaf) {
        row(x, 0, 2, leaf);
        return x.leaf(0, 2, 0);
    }

    // ---- 28: leaf

    static void p28_theSheetIs0To3() {
        FewTypes x = creeping("a", "a", 1);
        for (int sheet : BEYOND_SHEETS) {
            due(BAD, x.leaf(sheet, 0, 0));
        }
        for (int sheet = 0; sheet < 4; sheet++) {
            due(NULL, x.leaf(sheet, 0, 0));
            x.sheet(sheet, 0, 1);
            due(1, x.leaf(sheet, 0, 0));
        }
    }

    static void p28_theLaneIs0To2() {
        FewTypes x = creeping("a", "a", 1);
        x.sheet(0, 0, 1);
        for (int lane : BEYOND_LANES) {
            due(BAD, x.leaf(0, lane, 0));
            due(BAD, x.leaf(1, lane, 0));
        }
        for (int lane = 0; lane < 3; lane++) {
            x.sheet(0, lane, 1);
            due(1, x.leaf(0, lane, 0));
        }
    }

    static void p28_nullIfTheSheetHoldsNothing() {
        FewTypes x = creeping("a", "a", 1);
        due(NULL, x.leaf(0, 0, 0));
        x.sheet(0, 0, 1);
        x.drop(0);
        due(NULL, x.leaf(0, 0, 0));
    }

    static void p28_castIfItIsOfAnotherLane() {
        FewTypes x = creeping("a", "a", 1);
        for (int lane = 0; lane < 3; lane++) {
            x.sheet(0, lane, 1);
            for (int other = 0; other < 3; other++) {
                due(other == lane ? 1 : CAST, x.leaf(0, other, 0));
            }
        }
    }

    static void p28_indexIfItHasNoItemForEachPlace() {
        FewTypes x = creeping("a,b,c", "abc", 1);
        row(x, 0, 1, 9, 9, 0, 2, 4);
        due(INDEX, x.leaf(0, 1, -1));
        due(NONE, x.leaf(0, 1, 0));
        due(1, x.leaf(0, 1, 2));
        due(INDEX, x.leaf(0, 1, 3));
        due(INDEX, x.leaf(0, 1, 5));
        due(INDEX, x.leaf(0, 1, 6));
        x.sheet(0, 1, 2);
        due(INDEX, x.leaf(0, 1, 0));
        x.sheet(0, 1, 0);
        due(INDEX, x.leaf(0, 1, 0));
    }

    static void p28_indexDoesNotWrapAround() {
        FewTypes x = creeping("a,b,c", "abc", 1);
        x.sheet(0, 1, 24);
        for (int i : new int[] {LOWEST, LOWEST + 1, -3, -24, HIGHEST, HIGHEST - 1, HIGHEST - 2, HIGHEST - 3}) {
            due(INDEX, x.leaf(0, 1, i));
        }
    }

    static void p28_theLastItemsOfAFullRow() {
        FewTypes x = creeping("a", "aaaaaaaaaa", 2);
        x.sheet(0, 0, 24);
        for (int place = 0; place < 10; place++) {
            x.item(0, 0, 14 + place, 2 * place + 2 * (9 - place));
        }
        due(10, x.leaf(0, 0, 14));
        due(INDEX, x.leaf(0, 0, 15));
        due(NONE, x.leaf(0, 0, 13));
    }

    static void p28_notIfThereIsNoLine() {
        FewTypes x = typesOnly("a");
        x.rule(1, 1);
        x.sheet(0, 1, 3);
        due(NOT, x.leaf(0, 1, 0));
        due(NOT, x.leaf(0, 1, 2));
        due(INDEX, x.leaf(0, 1, -1));
    }

    static void p28_notIfCreepIs0() {
        FewTypes x = creeping("a", "a", 0);
        x.sheet(0, 1, 1);
        due(NOT, x.leaf(0, 1, 0));
        x.rule(1, 1);
        due(1, x.leaf(0, 1, 0));
        x.rule(1, 0);
        due(NOT, x.leaf(0, 1, 0));
    }

    static void p28_badAheadOfNullAheadOfCastAheadOfIndexAheadOfNot() {
        FewTypes x = shop("a", "aa");
        due(BAD, x.leaf(4, 0, -1));
        due(BAD, x.leaf(0, 3, -1));
        due(NULL, x.leaf(0, 0, -1));
        x.sheet(0, 1, 1);
        due(CAST, x.leaf(0, 0, -1));
        due(INDEX, x.leaf(0, 1, -1));
        due(INDEX, x.leaf(0, 1, 0));
        x.sheet(0, 1, 2);
        due(NOT, x.leaf(0, 1, 0));
        x.rule(1, 1);
        due(NONE, x.leaf(0, 1, 0));
    }

    static void p28_onePullWithoutACreep() {
        due(1, made(creeping("a,b", "ab", 3), 0, 2));
        due(1, made(creeping("a", "a", 1), 0));
        due(1, made(creeping("a,b,c,d,e,f,g,h,i,j", "abcdefghij", 1), 0, 2, 4, 6, 8, 10, 12, 14, 16, 18));
    }

    static void p28_asManyPullsAsPlaces() {
        due(10, made(creeping("a", "aaaaaaaaaa", 3), 0, 5, 10, 15, 20, 25, 30, 35, 40, 45));
        due(10, made(creeping("a", "aaaaaaaaaa", 3), 27, 26, 25, 24, 23, 22, 21, 20, 19, 18));
        due(2, made(creeping("a", "aa", 1), 0, 3));
        due(2, made(creeping("a", "aa", 1), 1, 2));
    }

    static void p28_moreThanTheFewestPulls() {
        FewTypes x = creeping("a,b", "ab", 1);
        due(1, x.fewest());
        due(1, made(x, 0, 2));
        due(2, made(x, 0, 3));
        due(2, made(x, 1, 2));
    }

    static void p28_eachIsLeftAndSomeCreeps() {
        FewTypes x = creeping("a,b", "a_b", 3);
        due(1, made(x, 0, 4));
        due(2, made(x, 0, 7));
        due(2, made(x, 3, 4));
        due(NONE, made(x, 0, 5));
        due(NONE, made(x, 0, 6));
        due(NONE, made(x, 0, 8));
        due(NONE, made(x, 1, 4));
        due(NONE, made(x, 2, 4));
    }

    static void p28_noNumberOfCreepsBelow0() {
        FewTypes x = creeping("a,b", "ab", 1);
        due(NONE, made(x, 0, 1));
        due(NONE, made(x, -1, 2));
        due(NONE, made(x, -1, 1));
        due(NONE, made(creeping("a,b", "ab", 2), 0, 0));
    }

    static void p28_theNumbersBeginWith0() {
        FewTypes x = creeping("a,b", "ab", 1);
        due(NONE, made(x, 1, 3));
        due(NONE, made(x, 1, 4));
        due(NONE, made(creeping("a", "a", 1), 1));
    }

    static void p28_theNumbersHaveNoGap() {
        FewTypes x = creeping("a,b,c", "abc", 1);
        due(3, made(x, 0, 3, 6));
        due(NONE, made(x, 0, 4, 4));
        due(NONE, made(x, 0, 3, 7));
        due(NONE, made(x, 0, 2, 6));
        due(NONE, made(x, 2, 2, 4));
        due(2, made(x, 0, 2, 5));
    }

    static void p28_aNumberBeyondThePlacesLeavesAGap() {
        due(NONE, made(creeping("a", "aaaaaaaaaa", 1), 0, 3, 6, 9, 12, 15, 18, 21, 24, 28));
        due(NONE, made(creeping("a", "aaaaaaaaaa", 1), 10, 3, 6, 9, 12, 15, 18, 21, 24, 27));
        due(10, made(creeping("a", "aaaaaaaaaa", 1), 0, 3, 6, 9, 12, 15, 18, 21, 24, 27));
        due(NONE, made(creeping("a", "aa", 1), 0, 4));
        due(NONE, made(creeping("a", "aa", 1), 0, 14));
        due(NONE, made(creeping("a", "aa", 1), 0, 34));
    }

    static void p28_theSetsCan() {
        FewTypes x = creeping("a,b", "aab", 1);
        due(2, made(x, 0, 3, 4));
        due(2, made(x, 0, 3, 5));
        due(NONE, made(x, 0, 2, 4));
        due(NONE, made(x, 0, 2, 5));
        due(NONE, made(creeping("nab", "ab", 1), 0, 3));
        due(1, made(creeping("nab", "ab", 1), 0, 2));
        due(NONE, made(creeping("b", "a", 1), 0));
    }

    static void p28_theLaterSetsCanToo() {
        FewTypes x = creeping("a,b", "baa", 1);
        due(NONE, made(x, 0, 3, 5));
        due(3, made(x, 0, 3, 6));
        due(2, made(x, 0, 2, 5));
    }

    static void p28_theSetsCanByWedges() {
        FewTypes x = creeping("a,b", "ab", 1);
        x.rule(0, 1);
        due(NONE, made(x, 0, 2));
        due(2, made(x, 0, 3));
    }

    static void p28_leftIsByTheWidthsOfNow() {
        FewTypes x = creeping("a,b", "ab", 3);
        x.width(0, 4);
        due(1, made(x, 0, 4));
        due(NONE, made(x, 0, 2));
        x.width(0, 1);
        due(2, made(x, 0, 4));
    }

    static void p28_farItemsDoNotWrapAround() {
        FewTypes x = creeping("a,b", "ab", 1);
        due(NONE, made(x, 0, HIGHEST));
        due(NONE, made(x, 0, LOWEST));
        due(NONE, made(x, 0, LOWEST + 1));
        due(NONE, made(x, LOWEST, 2));
        due(NONE, made(x, HIGHEST, 2));
        due(NONE, made(creeping("a,b", "ab", 2), 0, LOWEST));
        due(NONE, made(creeping("a,b", "ab", 2), 0, LOWEST + 2));
        due(NONE, made(creeping("a,b", "ab", 3), 0, HIGHEST));
    }

    static void p28_itemsOfOtherLanesAreTheirLowestBits() {
        FewTypes x = creeping("a,b", "ab", 1);
        row(x, 0, 0, 256, 258);
        due(1, x.leaf(0, 0, 0));
        row(x, 0, 1, 65536, 65538);
        due(1, x.leaf(0, 1, 0));
        row(x, 0, 1, 256, 258);
        due(NONE, x.leaf(0, 1, 0));
        row(x, 0, 2, 65536, 65538);
        due(NONE, x.leaf(0, 2, 0));
    }

    static void p28_leafChangesNothing() {
        same(NONE, Sentences4Sheets::richOfThreePlaces, x -> x.leaf(0, 1, 0));
        same(INDEX, x -> x.leaf(0, 1, 0));
        same(CAST, x -> x.leaf(0, 0, 0));
        same(NULL, x -> x.leaf(3, 0, 0));
        same(BAD, x -> x.leaf(4, 0, 0));
        same(NOT, Sentences::richWithoutLine, x -> x.leaf(0, 1, 0));
        FewTypes x = creeping("a,b", "ab", 1);
        due(2, made(x, 0, 3));
        due(2, x.leaf(0, 2, 0));
        holds(x, 0, 2, 0, 3);
    }

    private static FewTypes richOfThreePlaces() {
        FewTypes x = rich();
        x.line();
        line(x, "abc");
        return x;
    }

    // ---- 29: alike

    static void p29_bothSheetsAre0To3() {
        FewTypes x = new FewTypes();
        x.sheet(0, 0, 1);
        x.sheet(3, 0, 1);
        for (int sheet : BEYOND_SHEETS) {
            due(BAD, x.alike(sheet, 0, 1, 0));
            due(BAD, x.alike(0, sheet, 1, 0));
        }
        due(1, x.alike(0, 3, 1, 0));
        due(1, x.alike(3, 0, 1, 0));
    }

    static void p29_nIs1To24() {
        FewTypes x = new FewTypes();
        x.sheet(0, 0, 24);
        due(BAD, x.alike(0, 0, 0, 0));
        due(BAD, x.alike(0, 0, -1, 0));
        due(1, x.alike(0, 0, 1, 0));
        due(1, x.alike(0, 0, 24, 0));
        due(BAD, x.alike(0, 0, 25, 0));
        due(BAD, x.alike(0, 0, LOWEST, 0));
        due(BAD, x.alike(0, 0, HIGHEST, 0));
    }

    static void p29_partIs0Or1() {
        FewTypes x = new FewTypes();
        row(x, 0, 0, 1, 2, 3);
        row(x, 1, 0, 1, 5, 6);
        due(BAD, x.alike(0, 1, 3, -1));
        due(1, x.alike(0, 1, 3, 0));
        due(3, x.alike(0, 1, 3, 1));
        due(BAD, x.alike(0, 1, 3, 2));
        due(BAD, x.alike(0, 1, 3, LOWEST));
        due(BAD, x.alike(0, 1, 3, HIGHEST));
    }

    static void p29_nullIfEitherHoldsNothing() {
        FewTypes x = new FewTypes();
        x.sheet(0, 0, 3);
        due(NULL, x.alike(0, 1, 1, 0));
        due(NULL, x.alike(1, 0, 1, 0));
        due(NULL, x.alike(1, 1, 1, 0));
        due(NULL, x.alike(1, 2, 1, 0));
    }

    static void p29_castIfOfUnlikeLanes() {
        FewTypes x = new FewTypes();
        for (int lane = 0; lane < 3; lane++) {
            x.sheet(lane, lane, 1);
        }
        for (int i = 0; i < 9; i++) {
            due(i / 3 == i % 3 ? 1 : CAST, x.alike(i / 3, i % 3, 1, 0));
        }
    }

    static void p29_indexIfEitherHasFewer() {
        FewTypes x = new FewTypes();
        x.sheet(0, 0, 3);
        x.sheet(1, 0, 5);
        due(1, x.alike(0, 1, 3, 0));
        due(INDEX, x.alike(0, 1, 4, 0));
        due(INDEX, x.alike(1, 0, 4, 0));
        due(1, x.alike(1, 1, 5, 0));
        due(INDEX, x.alike(1, 1, 6, 1));
        due(INDEX, x.alike(1, 1, 24, 1));
        x.sheet(2, 0, 0);
        due(INDEX, x.alike(2, 2, 1, 0));
        due(INDEX, x.alike(0, 2, 1, 0));
    }

    static void p29_badAheadOfNullAheadOfCastAheadOfIndex() {
        FewTypes x = new FewTypes();
        due(BAD, x.alike(0, 1, 0, 0));
        due(BAD, x.alike(0, 1, 1, 2));
        due(BAD, x.alike(0, 4, 1, 0));
        due(NULL, x.alike(0, 1, 24, 0));
        x.sheet(0, 0, 1);
        due(NULL, x.alike(0, 1, 24, 0));
        x.sheet(1, 1, 1);
        due(BAD, x.alike(0, 1, 25, 0));
        due(CAST, x.alike(0, 1, 24, 0));
        x.sheet(1, 0, 1);
        due(BAD, x.alike(0, 1, 25, 0));
        due(INDEX, x.alike(0, 1, 24, 0));
        due(BAD, x.alike(0, 1, 24, 2));
    }

    static void p29_noneAlikeIs0By1() {
        FewTypes x = new FewTypes();
        row(x, 0, 0, 1, 2, 3, 4);
        row(x, 1, 0, 2, 3, 4, 5);
        for (int n = 1; n <= 4; n++) {
            due(0, x.alike(0, 1, n, 0));
            due(1, x.alike(0, 1, n, 1));
        }
    }

    static void p29_allAlikeIs1By1() {
        FewTypes x = new FewTypes();
        x.sheet(0, 2, 24);
        x.sheet(1, 2, 24);
        for (int n = 1; n <= 24; n++) {
            due(1, x.alike(0, 1, n, 0));
            due(1, x.alike(0, 1, n, 1));
        }
    }

    static void p29_inLowestTerms() {
        int[][] lowest = {{0, 1}, {1, 24}, {1, 12}, {1, 8}, {1, 6}, {5, 24}, {1, 4}, {7, 24}, {1, 3}, {3, 8}, {5, 12}, {11, 24},
            {1, 2}, {13, 24}, {7, 12}, {5, 8}, {2, 3}, {17, 24}, {3, 4}, {19, 24}, {5, 6}, {7, 8}, {11, 12}, {23, 24}, {1, 1}};
        for (int same = 0; same <= 24; same++) {
            FewTypes x = new FewTypes();
            x.sheet(0, 1, 24);
            x.sheet(1, 1, 24);
            for (int i = same; i < 24; i++) {
                x.item(1, 1, i, 1);
            }
            due(lowest[same][0], x.alike(0, 1, 24, 0));
            due(lowest[same][1], x.alike(1, 0, 24, 1));
        }
    }

    static void p29_eachFromItsFirstOn() {
        FewTypes x = new FewTypes();
        row(x, 0, 0, 1, 2, 3, 4, 5);
        row(x, 1, 0, 1, 9, 3);
        due(1, x.alike(0, 1, 1, 0));
        due(1, x.alike(0, 1, 1, 1));
        due(1, x.alike(0, 1, 2, 0));
        due(2, x.alike(0, 1, 2, 1));
        due(2, x.alike(0, 1, 3, 0));
        due(3, x.alike(0, 1, 3, 1));
    }

    static void p29_theFarItemsAreUnlike() {
        FewTypes x = new FewTypes();
        row(x, 0, 2, LOWEST, HIGHEST, 0, -1);
        row(x, 1, 2, HIGHEST, LOWEST, -1, 0);
        due(0, x.alike(0, 1, 4, 0));
        row(x, 1, 2, LOWEST, HIGHEST, 0, -1);
        due(1, x.alike(0, 1, 4, 0));
    }

    static void p29_alikeChangesNothing() {
        same(1, x -> x.alike(0, 0, 3, 0));
        same(INDEX, x -> x.alike(0, 0, 4, 0));
        same(CAST, x -> x.alike(0, 1, 1, 0));
        same(NULL, x -> x.alike(0, 3, 1, 0));
        same(BAD, x -> x.alike(0, 0, 0, 0));
    }

    // ---- 30: sheet

    static void p30_theSheetIs0To3() {
        FewTypes x = new FewTypes();
        for (int sheet : BEYOND_SHEETS) {
            due(BAD, x.sheet(sheet, 0, 1));
        }
        for (int sheet = 0; sheet < 4; sheet++) {
            due(sheet + 1, x.sheet(sheet, 0, sheet + 1));
        }
        for (int sheet = 0; sheet < 4; sheet++) {
            due(sheet + 1, x.drop(sheet));
        }
    }

    static void p30_theLaneIs0To2() {
        FewTypes x = new FewTypes();
        for (int lane : BEYOND_LANES) {
            due(BAD, x.sheet(0, lane, 1));
        }
        due(NULL, x.drop(0));
        for (int lane = 0; lane < 3; lane++) {
            due(1, x.sheet(0, lane, 1));
            due(1, x.item(0, lane, 0, 1));
        }
    }

    static void p30_nIs0To24() {
        for (int lane = 0; lane < 3; lane++) {
            FewTypes x = new FewTypes();
            due(0, x.sheet(0, lane, 0));
            due(0, x.drop(0));
            due(24, x.sheet(0, lane, 24));
            due(24, x.drop(0));
            due(BAD, x.sheet(0, lane, 25));
            due(BAD, x.sheet(0, lane, HIGHEST));
            due(NULL, x.drop(0));
        }
    }

    static void p30_sizeIfNIsBelow0() {
        FewTypes x = new FewTypes();
        due(SIZE, x.sheet(0, 0, -1));
        due(SIZE, x.sheet(3, 2, LOWEST));
        due(NULL, x.drop(0));
        due(NULL, x.drop(3));
    }

    static void p30_badAheadOfSize() {
        FewTypes x = new FewTypes();
        due(BAD, x.sheet(4, 0, -1));
        due(BAD, x.sheet(-1, 0, -1));
        due(BAD, x.sheet(0, 3, -1));
        due(BAD, x.sheet(0, -1, -1));
    }

    static void p30_aNewRowHasItemsOf0() {
        FewTypes x = new FewTypes();
        for (int lane = 0; lane < 3; lane++) {
            row(x, 0, lane, 1, 2, 3, 4);
            x.sheet(0, lane, 4);
            holds(x, 0, lane, 0, 0, 0, 0);
            row(x, 0, lane, 1, 2, 3, 4);
            x.drop(0);
            x.sheet(0, lane, 4);
            holds(x, 0, lane, 0, 0, 0, 0);
            row(x, 0, lane, 1, 2, 3, 4);
            x.sheet(0, lane, 1);
            x.sheet(0, lane, 4);
            holds(x, 0, lane, 0, 0, 0, 0);
        }
    }

    static void p30_aNewRowMayBeOfAnotherLaneAndLength() {
        FewTypes x = new FewTypes();
        row(x, 0, 0, 1, 2, 3, 4);
        due(2, x.sheet(0, 2, 2));
        due(CAST, x.item(0, 0, 0, 1));
        due(1, x.item(0, 2, 1, 1));
        due(INDEX, x.item(0, 2, 2, 1));
    }

    static void p30_theOtherSheetsStay() {
        FewTypes x = new FewTypes();
        row(x, 0, 0, 1, 2);
        row(x, 1, 0, 3, 4);
        x.sheet(2, 0, 2);
        x.sheet(1, 0, 2);
        holds(x, 0, 0, 1, 2);
        holds(x, 1, 0, 0, 0);
    }

    static void p30_refusedChangesNothing() {
        same(BAD, x -> x.sheet(4, 0, 1));
        same(BAD, x -> x.sheet(0, 3, 1));
        same(BAD, x -> x.sheet(0, 1, 25));
        same(SIZE, x -> x.sheet(0, 1, -1));
        same(SIZE, x -> x.sheet(3, 1, -1));
    }

    // ---- 31: drop

    static void p31_theSheetIs0To3() {
        FewTypes x = new FewTypes();
        for (int sheet : BEYOND_SHEETS) {
            due(BAD, x.drop(sheet));
        }
        x.sheet(0, 0, 1);
        x.sheet(3, 0, 2);
        due(1, x.drop(0));
        due(2, x.drop(3));
    }

    static void p31_nullIfItHoldsNothing() {
        FewTypes x = new FewTypes();
        due(NULL, x.drop(0));
        x.sheet(0, 0, 5);
        due(5, x.drop(0));
        due(NULL, x.drop(0));
    }

    static void p31_itAnswersHowManyItemsItHad() {
        FewTypes x = new FewTypes();
        for (int n : new int[] {0, 1, 23, 24}) {
            x.sheet(2, 1, n);
            due(n, x.drop(2));
        }
    }

    static void p31_aRowWithoutItemsIsNotNothing() {
        FewTypes x = new FewTypes();
        x.sheet(0, 0, 0);
        due(INDEX, x.item(0, 0, 0, 0));
        due(0, x.drop(0));
        due(NULL, x.item(0, 0, 0, 0));
    }

    static void p31_itHoldsNothingThen() {
        FewTypes x = creeping("a", "a", 1);
        x.sheet(0, 0, 2);
        x.sheet(1, 0, 2);
        x.drop(0);
        due(NULL, x.item(0, 0, 0, 1));
        due(NULL, x.leaf(0, 0, 0));
        due(NULL, x.alike(0, 1, 1, 0));
        due(NULL, x.copy(0, 0, 1, 0, 1));
        due(2, x.drop(1));
    }

    static void p31_refusedChangesNothing() {
        same(BAD, x -> x.drop(4));
        same(BAD, x -> x.drop(-1));
        same(NULL, x -> x.drop(3));
    }

    // ---- 32: item

    static void p32_theSheetIs0To3() {
        FewTypes x = new FewTypes();
        for (int sheet : BEYOND_SHEETS) {
            due(BAD, x.item(sheet, 0, 0, 1));
        }
        for (int sheet = 0; sheet < 4; sheet++) {
            due(NULL, x.item(sheet, 0, 0, 1));
            x.sheet(sheet, 0, 1);
            due(1, x.item(sheet, 0, 0, 1));
        }
    }

    static void p32_theLaneIs0To2() {
        FewTypes x = new FewTypes();
        for (int lane : BEYOND_LANES) {
            due(BAD, x.item(0, lane, 0, 1));
        }
        x.sheet(0, 0, 1);
        for (int lane : BEYOND_LANES) {
            due(BAD, x.item(0, lane, 0, 1));
        }
    }

    static void p32_castIfItIsOfAnotherLane() {
        FewTypes x = new FewTypes();
        for (int lane = 0; lane < 3; lane++) {
            x.sheet(0, lane, 1);
            for (int other = 0; other < 3; other++) {
                due(other == lane ? 1 : CAST, x.item(0, other, 0, 1));
            }
        }
    }

    static void p32_indexIfThereIsNoSuchItem() {
        FewTypes x = new FewTypes();
        x.sheet(0, 1, 3);
        due(INDEX, x.item(0, 1, -1, 7));
        due(1, x.item(0, 1, 0, 7));
        due(1, x.item(0, 1, 2, 8));
        due(INDEX, x.item(0, 1, 3, 7));
        due(INDEX, x.item(0, 1, LOWEST, 7));
        due(INDEX, x.item(0, 1, HIGHEST, 7));
        holds(x, 0, 1, 7, 0, 8);
        x.sheet(0, 1, 24);
        due(1, x.item(0, 1, 23, 7));
        due(INDEX, x.item(0, 1, 24, 7));
        x.sheet(0, 1, 0);
        due(INDEX, x.item(0, 1, 0, 7));
    }

    static void p32_badAheadOfNullAheadOfCastAheadOfIndex() {
        FewTypes x = new FewTypes();
        due(BAD, x.item(4, 0, -1, 0));
        due(BAD, x.item(0, 3, -1, 0));
        due(NULL, x.item(0, 0, -1, 0));
        x.sheet(0, 1, 1);
        due(BAD, x.item(0, 3, -1, 0));
        due(CAST, x.item(0, 0, -1, 0));
        due(INDEX, x.item(0, 1, -1, 0));
    }

    static void p32_ofBytesTheLowest8Bits() {
        FewTypes x = new FewTypes();
        row(x, 0, 0, 127, 128, 255, 256, -128, -129, HIGHEST, LOWEST);
        row(x, 1, 0, 127, -128, -1, 0, 128, 127, -1, 0);
        due(1, x.alike(0, 1, 8, 1));
        due(1, x.alike(0, 1, 8, 0));
        row(x, 1, 0, 126, 127, 0, 1, 127, 128, 0, 1);
        due(0, x.alike(0, 1, 8, 0));
    }

    static void p32_ofShortsTheLowest16Bits() {
        FewTypes x = new FewTypes();
        row(x, 0, 1, 32767, 32768, 65535, 65536, -32768, -32769, HIGHEST, LOWEST);
        row(x, 1, 1, 32767, -32768, -1, 0, 32768, 32767, -1, 0);
        due(1, x.alike(0, 1, 8, 1));
        due(1, x.alike(0, 1, 8, 0));
        row(x, 0, 1, 127, 128, 255, 256);
        row(x, 1, 1, 127, -128, -1, 0);
        due(1, x.alike(0, 1, 4, 0));
        due(4, x.alike(0, 1, 4, 1));
    }

    static void p32_ofIntsAllBits() {
        FewTypes x = new FewTypes();
        row(x, 0, 2, 65535, 65536, HIGHEST, LOWEST, 32768, 255);
        row(x, 1, 2, -1, 0, -1, 0, -32768, -1);
        due(0, x.alike(0, 1, 6, 0));
        row(x, 1, 2, 65535, 65536, HIGHEST, LOWEST, 32768, 255);
        due(1, x.alike(0, 1, 6, 1));
        due(1, x.alike(0, 1, 6, 0));
    }

    static void p32_onlyThatItem() {
        FewTypes x = new FewTypes();
        row(x, 0, 1, 1, 2, 3);
        row(x, 1, 1, 1, 2, 3);
        due(1, x.item(0, 1, 1, 9));
        holds(x, 0, 1, 1, 9, 3);
        holds(x, 1, 1, 1, 2, 3);
    }

    static void p32_refusedChangesNothing() {
        same(BAD, x -> x.item(4, 0, 0, 9));
        same(BAD, x -> x.item(0, 3, 0, 9));
        same(NULL, x -> x.item(3, 0, 0, 9));
        same(CAST, x -> x.item(0, 0, 0, 9));
        same(INDEX, x -> x.item(0, 1, 3, 9));
        same(INDEX, x -> x.item(0, 1, -1, 9));
        same(INDEX, x -> x.item(2, 2, 0, 9));
    }

    // ---- 33: copy

    static void p33_bothSheetsAre0To3() {
        FewTypes x = new FewTypes();
        x.sheet(0, 0, 1);
        x.sheet(3, 0, 1);
        for (int sheet : BEYOND_SHEETS) {
            due(BAD, x.copy(sheet, 0, 0, 0, 1));
            due(BAD, x.copy(0, 0, sheet, 0, 1));
        }
        due(1, x.copy(0, 0, 3, 0, 1));
        due(1, x.copy(3, 0, 0, 0, 1));
    }

    static void p33_nullIfEitherHoldsNothing() {
        FewTypes x = new FewTypes();
        x.sheet(0, 0, 3);
        due(NULL, x.copy(0, 0, 1, 0, 1));
        due(NULL, x.copy(1, 0, 0, 0, 1));
        due(NULL, x.copy(1, 0, 1, 0, 1));
        due(NULL, x.copy(0, 0, 1, 0, 0));
    }

    static void p33_castIfOfUnlikeLanes() {
        FewTypes x = new FewTypes();
        for (int lane = 0; lane < 3; lane++) {
            x.sheet(lane, lane, 1);
        }
        for (int i = 0; i < 9; i++) {
            due(i / 3 == i % 3 ? 1 : CAST, x.copy(i / 3, 0, i % 3, 0, 1));
            due(i / 3 == i % 3 ? 0 : CAST, x.copy(i / 3, 0, i % 3, 0, 0));
        }
    }

    static void p33_indexIfTheyAreNotAllThere() {
        FewTypes x = new FewTypes();
        x.sheet(0, 0, 5);
        x.sheet(1, 0, 8);
        due(5, x.copy(0, 0, 1, 0, 5));
        due(INDEX, x.copy(0, 0, 1, 0, 6));
        due(4, x.copy(0, 1, 1, 0, 4));
        due(INDEX, x.copy(0, 1, 1, 0, 5));
        due(1, x.copy(0, 4, 1, 0, 1));
        due(INDEX, x.copy(0, 5, 1, 0, 1));
        due(INDEX, x.copy(0, -1, 1, 0, 1));
    }

    static void p33_indexIfTheyHaveNoRoom() {
        FewTypes x = new FewTypes();
        x.sheet(0, 0, 8);
        x.sheet(1, 0, 5);
        due(5, x.copy(0, 0, 1, 0, 5));
        due(INDEX, x.copy(0, 0, 1, 0, 6));
        due(4, x.copy(0, 0, 1, 1, 4));
        due(INDEX, x.copy(0, 0, 1, 1, 5));
        due(1, x.copy(0, 0, 1, 4, 1));
        due(INDEX, x.copy(0, 0, 1, 5, 1));
        due(INDEX, x.copy(0, 0, 1, -1, 1));
    }

    static void p33_indexIfNIsBelow0() {
        FewTypes x = new FewTypes();
        x.sheet(0, 0, 5);
        due(INDEX, x.copy(0, 0, 0, 0, -1));
        due(INDEX, x.copy(0, 3, 0, 3, -1));
        due(INDEX, x.copy(0, 0, 0, 0, LOWEST));
        due(0, x.copy(0, 0, 0, 0, 0));
    }

    static void p33_indexDoesNotWrapAround() {
        FewTypes x = new FewTypes();
        x.sheet(0, 0, 24);
        int[][] far = {{HIGHEST, 0, 1}, {0, HIGHEST, 1}, {0, 0, HIGHEST}, {1, 0, HIGHEST}, {0, 1, HIGHEST}, {HIGHEST, 0, HIGHEST},
            {LOWEST, 0, LOWEST}, {0, LOWEST, LOWEST}, {LOWEST, 0, 1}, {0, LOWEST, 1}, {HIGHEST, HIGHEST, 2}, {LOWEST, LOWEST, 0}};
        for (int[] f : far) {
            due(INDEX, x.copy(0, f[0], 0, f[1], f[2]));
        }
    }

    static void p33_noItemsAreCopiedToo() {
        FewTypes x = new FewTypes();
        row(x, 0, 0, 1, 2, 3);
        row(x, 1, 0, 4, 5);
        due(0, x.copy(0, 0, 1, 0, 0));
        due(0, x.copy(0, 3, 1, 2, 0));
        due(INDEX, x.copy(0, 4, 1, 0, 0));
        due(INDEX, x.copy(0, 0, 1, 3, 0));
        due(INDEX, x.copy(0, -1, 1, 0, 0));
        holds(x, 1, 0, 4, 5);
        x.sheet(2, 0, 0);
        due(0, x.copy(2, 0, 2, 0, 0));
        due(0, x.copy(2, 0, 1, 0, 0));
        due(INDEX, x.copy(2, 0, 1, 0, 1));
        due(INDEX, x.copy(1, 0, 2, 0, 1));
    }

    static void p33_badAheadOfNullAheadOfCastAheadOfIndex() {
        FewTypes x = new FewTypes();
        due(BAD, x.copy(4, -1, 0, 0, 1));
        due(BAD, x.copy(0, -1, 4, 0, 1));
        due(NULL, x.copy(0, -1, 1, 0, 1));
        x.sheet(0, 0, 1);
        due(NULL, x.copy(0, -1, 1, 0, 1));
        x.sheet(1, 1, 1);
        due(CAST, x.copy(0, -1, 1, 0, 1));
        x.sheet(1, 0, 1);
        due(INDEX, x.copy(0, -1, 1, 0, 1));
    }

    static void p33_itemsComeFromIToJ() {
        FewTypes x = new FewTypes();
        row(x, 0, 2, 1, 2, 3, 4, HIGHEST);
        row(x, 1, 2, 9, 8, 7, 6);
        due(2, x.copy(0, 3, 1, 1, 2));
        holds(x, 1, 2, 9, 4, HIGHEST, 6);
        holds(x, 0, 2, 1, 2, 3, 4, HIGHEST);
    }

    static void p33_allItemsOfAFullRow() {
        FewTypes x = new FewTypes();
        x.sheet(0, 1, 24);
        x.sheet(1, 1, 24);
        for (int i = 0; i < 24; i++) {
            x.item(0, 1, i, 1000 + i);
        }
        due(24, x.copy(0, 0, 1, 0, 24));
        due(1, x.alike(0, 1, 24, 1));
        due(1, x.alike(0, 1, 24, 0));
        due(INDEX, x.copy(0, 0, 1, 0, 25));
    }

    static void p33_asIfAllWereTakenAhead() {
        FewTypes x = new FewTypes();
        row(x, 0, 0, 1, 2, 3, 4, 5);
        due(4, x.copy(0, 0, 0, 1, 4));
        holds(x, 0, 0, 1, 1, 2, 3, 4);
        row(x, 0, 0, 1, 2, 3, 4, 5);
        due(4, x.copy(0, 1, 0, 0, 4));
        holds(x, 0, 0, 2, 3, 4, 5, 5);
        row(x, 0, 0, 1, 2, 3, 4, 5);
        due(5, x.copy(0, 0, 0, 0, 5));
        holds(x, 0, 0, 1, 2, 3, 4, 5);
    }

    static void p33_theyAreCopiesThen() {
        FewTypes x = new FewTypes();
        row(x, 0, 0, 1, 2);
        x.sheet(1, 0, 2);
        x.copy(0, 0, 1, 0, 2);
        x.item(0, 0, 0, 9);
        holds(x, 1, 0, 1, 2);
        x.drop(0);
        holds(x, 1, 0, 1, 2);
    }

    static void p33_refusedChangesNothing() {
        same(BAD, x -> x.copy(4, 0, 0, 0, 1));
        same(BAD, x -> x.copy(0, 0, 4, 0, 1));
        same(NULL, x -> x.copy(0, 0, 3, 0, 1));
        same(CAST, x -> x.copy(0, 0, 1, 0, 1));
        same(INDEX, x -> x.copy(0, 0, 0, 1, 3));
        same(INDEX, x -> x.copy(0, 1, 0, 0, 3));
        same(INDEX, x -> x.copy(0, 0, 0, 1, -1));
    }
}
