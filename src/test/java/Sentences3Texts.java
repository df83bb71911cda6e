/** Promises 19 to 27: texts, jobs, images; each sentence that names a boundary by itself. */
public final class Sentences3Texts extends Sentences {
    public static void main(String[] args) {
        runAll(Sentences3Texts.class, 19, 27);
    }

    private static FewTypes withTexts(String types, String... texts) {
        FewTypes x = typesOnly(types);
        for (String text : texts) {
            line(x, text);
            x.text(0);
        }
        return x;
    }

    private static FewTypes richWithEightTexts() {
        FewTypes x = rich();
        for (int i = 3; i < 8; i++) {
            x.text(i % 4);
        }
        return x;
    }

    private static FewTypes richWithEightJobs() {
        FewTypes x = rich();
        for (int i = 2; i < 8; i++) {
            x.job(i, 10 * i);
        }
        return x;
    }

    private static FewTypes richWithoutImage() {
        FewTypes x = shop("a,mb5", "ab");
        x.text(1);
        x.job(2, 3);
        x.width(1, 4);
        x.rule(1, 2);
        tape(x, "ab");
        row(x, 0, 1, 7, 300, -5);
        return x;
    }

    // ---- 19: text

    static void p19_senseIs0To3() {
        FewTypes x = lineOnly("a");
        due(BAD, x.text(-1));
        due(0, x.text(0));
        due(1, x.text(3));
        due(BAD, x.text(4));
        due(BAD, x.text(LOWEST));
        due(BAD, x.text(HIGHEST));
        due(2, x.count(3));
    }

    static void p19_notIfThereIsNoLine() {
        FewTypes x = typesOnly("a");
        for (int sense = 0; sense < 4; sense++) {
            due(NOT, x.text(sense));
        }
        due(0, x.count(3));
    }

    static void p19_badAheadOfNot() {
        due(BAD, new FewTypes().text(-1));
        due(BAD, new FewTypes().text(4));
    }

    static void p19_eightAreFull() {
        FewTypes x = lineOnly("a");
        for (int i = 0; i < 8; i++) {
            due(i, x.text(0));
        }
        for (int sense = 0; sense < 4; sense++) {
            due(FULL, x.text(sense));
        }
        due(8, x.count(3));
        x.clear();
        due(0, x.text(0));
    }

    static void p19_badAheadOfFull() {
        FewTypes x = richWithEightTexts();
        due(BAD, x.text(-1));
        due(BAD, x.text(4));
        due(FULL, x.text(3));
    }

    static void p19_theLineIsATextToo() {
        FewTypes x = shop("a,b", "aa_b");
        due(0, x.text(1));
        dueText("aa_b", lineOf(x));
        due(2, x.needs(0));
        due(2, x.fewest());
        line(x, "b");
        due(1, x.text(1));
        due(2, x.needs(0));
        due(1, x.needs(1));
    }

    static void p19_aTextHasItsBlanksToo() {
        FewTypes x = withTexts("a,b,nab", "ab", "a_b", "ba", "b_a");
        x.rule(0, 1);
        due(1, x.needs(0));
        due(1, x.needs(1));
        due(2, x.needs(2));
        due(1, x.needs(3));
    }

    static void p19_aTextMayBeOneThatCantBePrinted() {
        FewTypes x = lineOnly("a");
        due(0, x.text(0));
        due(NONE, x.needs(0));
    }

    static void p19_refusedChangesNothing() {
        same(BAD, x -> x.text(-1));
        same(BAD, x -> x.text(4));
        same(NOT, Sentences::richWithoutLine, x -> x.text(0));
        same(FULL, Sentences3Texts::richWithEightTexts, x -> x.text(0));
    }

    // ---- 20: needs

    static void p20_theTextIsOneThatIsThere() {
        FewTypes x = withTexts("a,b", "a", "aa", "aaa");
        due(BAD, x.needs(-1));
        due(1, x.needs(0));
        due(2, x.needs(1));
        due(3, x.needs(2));
        due(BAD, x.needs(3));
        due(BAD, x.needs(8));
        due(BAD, x.needs(LOWEST));
        due(BAD, x.needs(HIGHEST));
    }

    static void p20_theLastOfEight() {
        FewTypes x = withTexts("a", "a", "a", "a", "a", "a", "a", "a", "aaaaaaaaaa");
        due(10, x.needs(7));
        due(BAD, x.needs(8));
        due(1, x.needs(6));
        line(x, "aa");
        due(2, x.fewest());
        due(BAD, x.needs(8));
    }

    static void p20_withoutATextAllIsBad() {
        due(BAD, shop("a", "a").needs(0));
        due(BAD, new FewTypes().needs(0));
    }

    static void p20_noneIfItCantBePrinted() {
        FewTypes x = withTexts("a,nbc", "b", "ab", "bc", "b_c");
        due(NONE, x.needs(0));
        due(NONE, x.needs(1));
        due(1, x.needs(2));
        due(NONE, x.needs(3));
    }

    static void p20_itIsFoundAnew() {
        FewTypes x = withTexts("a,b", "aab", "b");
        due(2, x.needs(0));
        x.cast(0, 0, 0);
        due(1, x.needs(0));
        x.rule(0, 1);
        due(2, x.needs(0));
        x.rule(0, 0);
        x.image();
        x.lose(0);
        due(2, x.needs(0));
        x.restore();
        due(1, x.needs(0));
        types(x, "a,mb1");
        due(2, x.needs(0));
        x.make(1);
        due(NONE, x.needs(0));
        x.clear();
        line(x, "a");
        x.text(0);
        due(1, x.needs(0));
    }

    static void p20_needsChangesNothing() {
        same(2, x -> x.needs(2));
        same(NONE, x -> x.needs(1));
        same(BAD, x -> x.needs(3));
        same(BAD, x -> x.needs(-1));
    }

    // ---- 21: lost

    static void p21_theTypeIsOneThatIsThere() {
        FewTypes x = withTexts("a,b,c", "abc");
        due(BAD, x.lost(-1));
        due(1, x.lost(0));
        due(1, x.lost(2));
        due(BAD, x.lost(3));
        due(BAD, x.lost(10));
        due(BAD, x.lost(LOWEST));
        due(BAD, x.lost(HIGHEST));
        due(BAD, lineOnly("a").lost(0));
    }

    static void p21_withoutTextsNoneIsLost() {
        due(0, shop("a", "a").lost(0));
    }

    static void p21_allEightCanBeLost() {
        FewTypes x = withTexts("a", "a", "aa", "aaa", "a", "a", "a", "a", "a");
        due(255, x.lost(0));
        x = withTexts("a,b", "b", "b", "b", "b", "b", "b", "b", "a");
        due(128, x.lost(0));
        due(127, x.lost(1));
    }

    static void p21_whatCantBeSaidAnywayIsNotLost() {
        FewTypes x = withTexts("a,b", "ac", "a", "c");
        due(2, x.lost(0));
        due(0, x.lost(1));
    }

    static void p21_whatAnotherTypePrintsIsNotLost() {
        due(0, withTexts("a,a", "a").lost(0));
        due(0, withTexts("a,tba", "a").lost(0));
        due(0, withTexts("a,ma1", "aaa").lost(0));
        due(0, withTexts("nab,a,b", "ab").lost(0));
        due(1, withTexts("nab,a", "ab").lost(0));
        due(0, withTexts("nab,a", "ab").lost(1));
        due(1, withTexts("nab,a", "aba").lost(1));
    }

    static void p21_onlyWhetherItCanBeSaidCounts() {
        FewTypes x = withTexts("a,a,b", "aab");
        due(1, x.needs(0));
        due(0, x.lost(0));
        due(1, x.lost(2));
    }

    static void p21_lostByWedges() {
        FewTypes x = withTexts("a,b,nab", "ab");
        x.rule(0, 1);
        due(0, x.lost(0));
        due(0, x.lost(2));
    }

    static void p21_theTypeStays() {
        FewTypes x = withTexts("a,tbc,nde,mf3", "a", "b");
        due(1, x.lost(0));
        due(2, x.lost(1));
        dueText("a,tbc,nde,mf3", typesOf(x));
        due(1, x.needs(0));
    }

    static void p21_lostChangesNothing() {
        same(1, x -> x.lost(0));
        same(0, x -> x.lost(2));
        same(BAD, x -> x.lost(5));
        same(BAD, x -> x.lost(-1));
    }

    // ---- 22: said

    static void p22_senseIs0To3() {
        FewTypes x = lineOnly("a");
        x.cast(0, 0, 0);
        for (int sense = 0; sense < 4; sense++) {
            x.text(sense);
        }
        due(BAD, x.said(-1));
        due(0, x.said(0));
        due(1, x.said(1));
        due(2, x.said(2));
        due(3, x.said(3));
        due(BAD, x.said(4));
        due(BAD, x.said(LOWEST));
        due(BAD, x.said(HIGHEST));
    }

    static void p22_noneIfThereIsNoTextOfIt() {
        FewTypes x = shop("a", "a");
        due(NONE, x.said(0));
        x.text(2);
        due(NONE, x.said(0));
        due(NONE, x.said(1));
        due(0, x.said(2));
        due(NONE, x.said(3));
    }

    static void p22_noneIfNoTextOfItCanBe() {
        FewTypes x = withTexts("a", "b", "ab", "c");
        due(NONE, x.said(0));
        line(x, "a");
        x.text(0);
        due(3, x.said(0));
    }

    static void p22_theFewestPulls() {
        due(2, withTexts("a", "aaa", "aa", "a").said(0));
        due(0, withTexts("a", "a", "aa", "aaa").said(0));
        due(1, withTexts("a", "b", "aaaaaaaaaa").said(0));
        due(7, withTexts("a", "aa", "aa", "aa", "b", "aa", "aa", "aa", "a").said(0));
    }

    static void p22_ofLikeOnesTheFirst() {
        due(1, withTexts("a,b", "aa", "ab", "ba", "a").said(0));
        due(0, withTexts("a", "a", "a").said(0));
    }

    static void p22_ofThatSenseOnly() {
        FewTypes x = shop("a", "aaa");
        x.text(1);
        line(x, "a");
        x.text(2);
        due(0, x.said(1));
        due(1, x.said(2));
    }

    static void p22_saidChangesNothing() {
        same(0, x -> x.said(0));
        same(2, x -> x.said(2));
        same(NONE, x -> x.said(3));
        same(BAD, x -> x.said(4));
        same(BAD, x -> x.said(-1));
    }

    // ---- 23: job

    static void p23_hoursAre1To24() {
        FewTypes x = new FewTypes();
        due(BAD, x.job(0, 100));
        due(BAD, x.job(-1, 100));
        due(0, x.job(1, 100));
        due(1, x.job(24, 100));
        due(BAD, x.job(25, 100));
        due(BAD, x.job(LOWEST, 100));
        due(BAD, x.job(HIGHEST, 100));
        due(2, x.count(4));
    }

    static void p23_dueIs1To200() {
        FewTypes x = new FewTypes();
        due(BAD, x.job(5, 0));
        due(BAD, x.job(5, -1));
        due(0, x.job(5, 1));
        due(1, x.job(5, 200));
        due(BAD, x.job(5, 201));
        due(BAD, x.job(5, LOWEST));
        due(BAD, x.job(5, HIGHEST));
        due(2, x.count(4));
    }

    static void p23_aJobThatCantBeInTimeIsTaken() {
        FewTypes x = new FewTypes();
        due(0, x.job(24, 1));
        due(1, x.count(4));
        due(0, x.done());
    }

    static void p23_eightAreFull() {
        FewTypes x = new FewTypes();
        for (int i = 0; i < 8; i++) {
            due(i, x.job(1, 200));
        }
        due(FULL, x.job(1, 200));
        due(FULL, x.job(24, 1));
        due(8, x.count(4));
        x.clear();
        due(0, x.job(1, 200));
    }

    static void p23_badAheadOfFull() {
        FewTypes x = richWithEightJobs();
        due(BAD, x.job(0, 1));
        due(BAD, x.job(25, 1));
        due(BAD, x.job(1, 0));
        due(BAD, x.job(1, 201));
        due(FULL, x.job(1, 1));
    }

    static void p23_refusedChangesNothing() {
        same(BAD, x -> x.job(0, 9));
        same(BAD, x -> x.job(25, 99));
        same(BAD, x -> x.job(1, 0));
        same(BAD, x -> x.job(1, 201));
        same(FULL, Sentences3Texts::richWithEightJobs, x -> x.job(1, 200));
    }

    // ---- 24: done

    private static FewTypes withJobs(int... hoursAndDue) {
        FewTypes x = new FewTypes();
        for (int i = 0; i < hoursAndDue.length; i += 2) {
            x.job(hoursAndDue[i], hoursAndDue[i + 1]);
        }
        return x;
    }

    static void p24_withoutJobsTheEmptySet() {
        due(0, new FewTypes().done());
    }

    static void p24_ifNoneCanBeDoneTheEmptySet() {
        due(0, withJobs(2, 1).done());
        due(0, withJobs(24, 23, 24, 1, 2, 1).done());
    }

    static void p24_byWhenItIsDueIsInTime() {
        due(1, withJobs(1, 1).done());
        due(1, withJobs(24, 24).done());
        due(0, withJobs(24, 23).done());
        due(3, withJobs(5, 5, 7, 12).done());
        due(1, withJobs(5, 5, 7, 11).done());
    }

    static void p24_theLastHour() {
        due(255, withJobs(24, 200, 24, 200, 24, 200, 24, 200, 24, 200, 24, 200, 24, 200, 24, 200).done());
        due(255, withJobs(24, 192, 24, 192, 24, 192, 24, 192, 24, 192, 24, 192, 24, 192, 24, 192).done());
        due(127, withJobs(24, 191, 24, 191, 24, 191, 24, 191, 24, 191, 24, 191, 24, 191, 24, 191).done());
    }

    static void p24_inWhateverRow() {
        due(3, withJobs(7, 12, 5, 5).done());
        due(7, withJobs(1, 3, 1, 2, 1, 1).done());
        due(255, withJobs(1, 8, 1, 7, 1, 6, 1, 5, 1, 4, 1, 3, 1, 2, 1, 1).done());
        due(127, withJobs(1, 7, 1, 7, 1, 6, 1, 5, 1, 4, 1, 3, 1, 2, 1, 1).done());
    }

    static void p24_howeverFourJobsCome() {
        int[] exact = {1, 1, 2, 3, 3, 6, 4, 10};
        for (int i = 0; i < 256; i++) {
            int[] come = {i & 3, i >> 2 & 3, i >> 4 & 3, i >> 6};
            if ((1 << come[0] | 1 << come[1] | 1 << come[2] | 1 << come[3]) == 15) {
                FewTypes x = new FewTypes();
                for (int job : come) {
                    x.job(exact[2 * job], exact[2 * job + 1]);
                }
                due(15, x.done());
            }
        }
    }

    static void p24_theMostJobs() {
        due(6, withJobs(10, 10, 5, 5, 5, 10).done());
        due(14, withJobs(9, 9, 3, 9, 3, 9, 3, 9).done());
    }

    static void p24_ofLikeOnesTheLeastSet() {
        due(1, withJobs(5, 5, 5, 5, 1, 4).done());
        due(1, withJobs(5, 5, 3, 3).done());
        due(3, withJobs(1, 2, 1, 2, 1, 2).done());
        due(5, withJobs(1, 2, 2, 2, 1, 2, 1, 2).done());
    }

    static void p24_theLastOfEight() {
        due(128, withJobs(2, 1, 2, 1, 2, 1, 2, 1, 2, 1, 2, 1, 2, 1, 1, 1).done());
    }

    static void p24_doneChangesNothing() {
        same(1, x -> x.done());
        FewTypes x = withJobs(3, 5, 4, 4, 1, 1);
        due(5, x.done());
        due(5, x.done());
        due(3, x.count(4));
    }

    // ---- 25: clear

    static void p25_itAnswersHowManyTogether() {
        FewTypes x = lineOnly("a");
        due(0, x.clear());
        x.text(0);
        due(1, x.clear());
        x.job(1, 1);
        due(1, x.clear());
        for (int i = 0; i < 8; i++) {
            x.text(0);
            x.job(1, 1);
        }
        due(16, x.clear());
        due(0, x.clear());
    }

    static void p25_textsAndJobsGo() {
        FewTypes x = rich();
        due(5, x.clear());
        due(0, x.count(3));
        due(0, x.count(4));
        due(BAD, x.needs(0));
        due(NONE, x.said(0));
        due(0, x.lost(0));
        due(0, x.done());
    }

    static void p25_theyComeFrom0OnThen() {
        FewTypes x = rich();
        x.clear();
        due(0, x.text(1));
        due(0, x.job(9, 9));
        due(2, x.needs(0));
        due(1, x.done());
    }

    static void p25_allElseStays() {
        FewTypes x = rich();
        x.clear();
        FewTypes y = rich();
        String then = stateOf(y).replaceFirst("texts[^;]*; 2 jobs 1;", "texts said -4 -4 -4 -4; 0 jobs 0;");
        dueText(then, stateOf(x));
    }

    // ---- 26: image

    static void p26_itAnswers1() {
        due(1, new FewTypes().image());
        due(1, rich().image());
        FewTypes x = rich();
        due(1, x.image());
        due(1, x.image());
    }

    static void p26_aNewObjectHasAnImageToo() {
        FewTypes x = new FewTypes();
        x.image();
        types(x, "a");
        line(x, "a");
        x.text(0);
        x.job(1, 1);
        x.width(0, 4);
        x.rule(0, 1);
        x.rule(1, 1);
        x.rule(2, 1);
        due(1, x.restore());
        dueText(stateOf(imaged(new FewTypes())), stateOf(x));
    }

    private static FewTypes imaged(FewTypes x) {
        x.image();
        return x;
    }

    static void p26_allIsKept() {
        FewTypes x = imaged(rich());
        x.types();
        x.clear();
        types(x, "l");
        line(x, "l");
        x.width(0, 1);
        x.width(11, 1);
        x.rule(0, 0);
        x.rule(1, 3);
        x.rule(2, 9);
        x.text(1);
        x.job(1, 1);
        x.restore();
        tape(x, "ab");
        dueText(stateOf(imaged(rich())), stateOf(x));
    }

    static void p26_whatIsFullIsKeptToo() {
        FewTypes x = shop("a,tab,nab,ma1,b,tbc,nbb,mb9,c,l", "a_b_c_d_e_f_g_h_i_j");
        for (int i = 0; i < 8; i++) {
            x.text(i % 4);
            x.job(1 + i, 100 + i);
        }
        x.image();
        x.clear();
        types(x, "a");
        line(x, "a");
        x.restore();
        dueText("a,tab,nab,ma1,b,tbc,nbb,mb9,c,l", typesOf(x));
        dueText("a_b_c_d_e_f_g_h_i_j", lineOf(x));
        due(8, x.count(3));
        due(8, x.count(4));
        due(255, x.done());
        due(FULL, x.cast(0, 0, 0));
        due(FULL, x.text(0));
        due(FULL, x.job(1, 1));
    }

    static void p26_theLastImageCounts() {
        FewTypes x = typesOnly("a");
        x.image();
        x.cast(0, 1, 0);
        x.image();
        x.cast(0, 2, 0);
        x.restore();
        dueText("a,b", typesOf(x));
    }

    static void p26_imageChangesNothingElse() {
        FewTypes x = imaged(rich());
        String kept = stateOf(x);
        String before = stateOf(rich());
        int end = before.indexOf("; restore");
        dueText(before.substring(0, end), kept.substring(0, kept.indexOf("; restore")));
    }

    // ---- 27: restore

    static void p27_noneIfThereIsNone() {
        due(NONE, new FewTypes().restore());
        same(NONE, Sentences3Texts::richWithoutImage, x -> x.restore());
    }

    static void p27_allIsAsItWasThen() {
        FewTypes x = rich();
        due(1, x.restore());
        dueText("l,ml9", typesOf(x));
        dueText("l_l", lineOf(x));
        due(4, x.count(2));
        due(1, x.count(3));
        due(0, x.said(3));
        due(1, x.count(4));
        due(1, x.done());
        due(1, x.width(11, 2));
        due(2, x.width(0, 2));
        due(0, x.rule(0, 0));
        due(0, x.rule(1, 0));
        due(2, x.rule(2, 4));
    }

    static void p27_theImageStays() {
        FewTypes x = rich();
        due(1, x.restore());
        x.cast(0, 0, 0);
        x.width(11, 4);
        line(x, "c");
        x.clear();
        due(1, x.restore());
        dueText("l,ml9", typesOf(x));
        due(1, x.width(11, 1));
        due(1, x.count(3));
        due(1, x.count(4));
        x.make(9);
        x.restore();
        dueText("l,ml9", typesOf(x));
    }

    static void p27_soapIsAsItWasThen() {
        FewTypes x = shop("ma5", "a");
        x.image();
        x.make(3);
        dueText("ma2", typesOf(x));
        x.restore();
        dueText("ma5", typesOf(x));
        x.make(9);
        due(0, x.count(0));
        x.restore();
        dueText("ma5", typesOf(x));
    }

    static void p27_sheetsStayAsTheyAre() {
        FewTypes x = new FewTypes();
        row(x, 0, 0, 1, 2);
        row(x, 1, 1, 3);
        x.image();
        x.item(0, 0, 0, 9);
        x.drop(1);
        x.sheet(2, 2, 5);
        x.restore();
        holds(x, 0, 0, 9, 2);
        due(NULL, x.drop(1));
        due(5, x.drop(2));
    }

    static void p27_theTapeStaysAsItIs() {
        FewTypes x = new FewTypes();
        tape(x, "ab");
        x.image();
        due(3, tape(x, "c"));
        x.restore();
        due(3, x.line());
        dueText("abc", lineOf(x));
        x.restore();
        due(-20, x.line());
        due(NOT, x.fewest());
    }

    static void p27_answersAreFoundAnew() {
        FewTypes x = shop("a,b", "aab");
        x.text(0);
        x.image();
        line(x, "a");
        types(x, "a");
        due(1, x.fewest());
        due(NONE, x.needs(0));
        x.restore();
        due(2, x.fewest());
        due(2, x.needs(0));
        dueText("1 6", planOf(x));
    }
}
