/** The bounds of the text, of archives and of what is told: Terms 1, promises 9 to 11. */
final class ArchivesBounds {
    private static final int BAD = -2, FULL = -4, FAR_NONE = -10000001;

    private ArchivesBounds() {
    }

    private static void good(String text) {
        EclipsesKept x = new EclipsesKept();
        Due.due("archive '" + text + "'", Due.archived(x, text), 0);
        Due.due("archives with '" + text + "'", x.count(1), 1);
    }

    private static void fault(String text, int place) {
        EclipsesKept x = new EclipsesKept();
        Due.due("archive '" + text + "'", Due.archived(x, text), -10 - place);
        Due.due("archives without '" + text + "'", x.count(1), 0);
    }

    /** Of all signs just these may stand behind what has begun; of them, these may be the last. */
    private static void goesOn(String begun, String signs, String ends) {
        for (char sign = 0; sign < 128; sign++) {
            String text = begun + sign;
            int due = signs.indexOf(sign) < 0 ? -10 - begun.length()
                    : ends.indexOf(sign) < 0 ? -10 - text.length() : 0;
            Due.due("'" + begun + "' and sign " + (int) sign, Due.archived(new EclipsesKept(), text), due);
        }
    }

    private static final String DIGITS = "0123456789";

    // ---- promise 9

    static void p09_signsAre0To127() {
        EclipsesKept x = new EclipsesKept();
        Due.due("feed(0)", x.feed(0), 1);
        Due.due("feed(127)", x.feed(127), 2);
        Due.due("count(5)", x.count(5), 2);
    }

    static void p09_signBelow0OrAbove127IsBad() {
        EclipsesKept x = new EclipsesKept();
        Due.due("feed(-1)", x.feed(-1), BAD);
        Due.due("feed(128)", x.feed(128), BAD);
        Due.due("feed(least)", x.feed(Integer.MIN_VALUE), BAD);
        Due.due("feed(greatest)", x.feed(Integer.MAX_VALUE), BAD);
        Due.due("count(5)", x.count(5), 0);
    }

    static void p09_hundredBytesAreTakenOneMoreIsFull() {
        EclipsesKept x = new EclipsesKept();
        for (int k = 1; k <= 100; k++) {
            Due.due("sign " + k, x.feed('k'), k);
        }
        Due.due("one more", x.feed('k'), FULL);
        Due.due("count(5)", x.count(5), 100);
    }

    static void p09_badComesAheadOfFull() {
        EclipsesKept x = Due.fed(new EclipsesKept(), "k".repeat(100));
        Due.due("feed(128)", x.feed(128), BAD);
        Due.due("feed(-1)", x.feed(-1), BAD);
        Due.due("feed(127)", x.feed(127), FULL);
    }

    static void p09_emptiedItTakesAHundredAgain() {
        EclipsesKept x = Due.fed(new EclipsesKept(), "k".repeat(100));
        x.archive();
        Due.due("the first", x.feed('k'), 1);
        Due.fed(x, "k".repeat(98));
        Due.due("the hundredth", x.feed('k'), 100);
        Due.due("one more", x.feed('k'), FULL);
    }

    static void p09_signsComeBehindTheOthers() {
        EclipsesKept x = Due.fed(new EclipsesKept(), "keep ");
        x.feed('4');
        x.feed('2');
        x.archive();
        Due.due("KEEP", x.told(3), 42);
    }

    // ---- clauses

    static void t1_noClauseIsNone() {
        fault("", 0);
    }

    static void t1_oneClauseIsEnough() {
        good("keep 1");
        good("fame 1 i=1");
        good("shame 1 i=1");
    }

    static void t1_tenClausesAreTheMost() {
        String ten = "keep 1;".repeat(9) + "keep 1";
        good(ten);
        fault(ten + ";", 69);
        fault(ten + ";keep 1", 69);
        good("keep 1;".repeat(8) + "keep 1");
    }

    static void t1_allTenClausesAreAsked() {
        EclipsesKept x = new EclipsesKept();
        x.need(0, 0);
        Due.due("ten", Due.archived(x, "keep 1;keep 2;keep 3;keep 4;keep 5;keep 6;fame 1 i=0;fame 2 i=0;"
                + "shame 9 i=0;fame 9 i=0"), 0);
        Due.due("worth", x.of(0, 3), 13);
        Due.due("keep", x.told(3), 6);
    }

    static void t1_clausesOfAllSortsAreCounted() {
        String nine = "keep 1;".repeat(7) + "fame 1 i=1;shame 1 i=1";
        good(nine + ";keep 1");
        fault(nine + ";keep 1;", 78);
    }

    static void t1_semicolonStandsBetweenClausesAlone() {
        fault(";keep 1", 0);
        fault("keep 1;", 7);
        fault("keep 1;;keep 1", 7);
        fault("keep 1 ;keep 1", 6);
        fault("keep 1; keep 1", 7);
        fault("keep 1keep 1", 6);
        good("keep 1;keep 1");
    }

    static void t1_aClauseBeginsWithItsWord() {
        goesOn("", "fsk", "");
        goesOn("f", "a", "");
        goesOn("fa", "m", "");
        goesOn("fam", "e", "");
        goesOn("s", "h", "");
        goesOn("sh", "a", "");
        goesOn("sha", "m", "");
        goesOn("sham", "e", "");
        goesOn("k", "e", "");
        goesOn("ke", "e", "");
        goesOn("kee", "p", "");
        goesOn("keep 1;", "fsk", "");
    }

    static void t1_oneBlankBehindTheWord() {
        goesOn("fame", " ", "");
        goesOn("shame", " ", "");
        goesOn("keep", " ", "");
        goesOn("fame ", DIGITS, "");
        goesOn("shame ", DIGITS, "");
        goesOn("keep ", DIGITS, DIGITS);
    }

    static void t1_oneBlankAheadOfE() {
        goesOn("fame 12", " ", "");
        goesOn("shame 12", " ", "");
        goesOn("fame 1 ", "ikvycd!(", "");
        fault("fame 1i=1", 6);
        fault("fame 1  i=1", 7);
        fault("shame 1  i=1", 8);
    }

    static void t1_nHasOneOrTwoDigits() {
        goesOn("fame 1", DIGITS + " ", "");
        goesOn("shame 1", DIGITS + " ", "");
        goesOn("keep 1", DIGITS + ";", DIGITS);
        goesOn("keep 12", ";", "");
        fault("fame  i=1", 5);
        fault("fame 123 i=1", 7);
        fault("shame 123 i=1", 8);
        fault("keep 123", 7);
    }

    static void t1_nIs0To99() {
        EclipsesKept x = new EclipsesKept();
        x.need(0, 0);
        int[][] due = {{0, 10}, {9, 19}, {99, 109}};
        for (int[] d : due) {
            Due.archived(x, "fame " + d[0] + " i=0;keep " + d[0]);
            Due.due("fame " + d[0], x.of(0, 3), d[1]);
            Due.due("keep " + d[0], x.told(3), d[0]);
        }
        Due.archived(x, "fame 00 i=0;keep 07");
        Due.due("fame 00", x.of(0, 3), 10);
        Due.due("keep 07", x.told(3), 7);
    }

    static void t1_keepHasNoE() {
        fault("keep 1 i=1", 6);
        fault("keep 12 i=1", 7);
    }

    // ---- E

    static void t1_aTestBeginsWithItsLetter() {
        goesOn("fame 1 i=1&", "ikvycd!(", "");
        goesOn("fame 1 i=1|", "ikvycd!(", "");
        goesOn("fame 1 !", "ikvycd!(", "");
        goesOn("fame 1 (", "ikvycd!(", "");
    }

    static void t1_behindTheLetterARelation() {
        for (char letter : "ikvycd".toCharArray()) {
            goesOn("fame 1 " + letter, "<=>", "");
        }
    }

    static void t1_theTestsNumberHasOneOrTwoDigits() {
        for (char relation : "<=>".toCharArray()) {
            goesOn("fame 1 i" + relation, DIGITS, DIGITS);
        }
        goesOn("fame 1 i=1", DIGITS + "&|;", DIGITS);
        goesOn("fame 1 i=12", "&|;", "");
    }

    static void t1_theTestsNumberIs0To99() {
        EclipsesKept x = new EclipsesKept();
        x.need(0, 0);
        Due.archived(x, "fame 1 i<99;fame 2 i>0;fame 4 i=0;fame 8 i=00;fame 16 i<1;fame 32 i<01");
        Due.due("all but the second", x.of(0, 3), 10 + 1 + 4 + 8 + 16 + 32);
    }

    static void t1_whatIsOpenedIsClosed() {
        goesOn("fame 1 (i=12", "&|)", ")");
        goesOn("fame 1 (i=12)", "&|;", "");
        goesOn("fame 1 ((i=12)", "&|)", ")");
        goesOn("fame 1 !(i=12", "&|)", ")");
        fault("fame 1 ()", 8);
        fault("fame 1 i=1)", 10);
        fault("fame 1 (i=1", 11);
        fault("fame 1 (i=1;keep 1", 11);
    }

    static void t1_fourDeepIsTheMost() {
        good("fame 1 !!!!i=1");
        good("fame 1 ((((i=1))))");
        good("fame 1 !(!(i=1))");
        good("fame 1 (!(!i=1))");
    }

    static void t1_aFifthWithinFourIsNone() {
        goesOn("fame 1 !!!!", "ikvycd", "");
        goesOn("fame 1 ((((", "ikvycd", "");
        goesOn("fame 1 !(!(", "ikvycd", "");
        goesOn("fame 1 (!(!", "ikvycd", "");
        goesOn("fame 1 !!!", "ikvycd!(", "");
        goesOn("fame 1 (((", "ikvycd!(", "");
    }

    static void t1_withinFourEveryFactorIsBound() {
        fault("fame 1 ((((i=1&!i=1))))", 15);
        fault("fame 1 ((((i=1|(i=1)))))", 15);
        fault("fame 1 (((!i=1&!!i=1)))", 16);
        good("fame 1 (((!i=1&!i=1)))");
    }

    static void t1_whatIsClosedHoldsNoMore() {
        good("fame 1 ((((i=1))))&((((i=1))))");
        good("fame 1 !!!!i=1|!!!!i=1");
        good("fame 1 (!!!i=1)&!(!!i=1)");
        good("fame 1 !!!!i=1;fame 1 !!!!i=1");
    }

    static void t1_relationsAreStrict() {
        // Just inside and just outside of each relation, for the number 3.
        boolean[][] due = {{true, false, false}, {false, true, false}, {false, false, true}};
        for (int r = 0; r < 3; r++) {
            EclipsesKept x = new EclipsesKept();
            x.need(0, 2);
            x.need(0, 3);
            x.need(0, 4);
            Due.archived(x, "fame 5 v" + "<=>".charAt(r) + "3");
            for (int k = 0; k < 3; k++) {
                Due.due("v " + (k + 2) + " " + "<=>".charAt(r) + " 3", x.of(k, 3), due[r][k] ? 15 : 10);
            }
        }
    }

    static void t1_yIsTheYearModulo10() {
        EclipsesKept x = new EclipsesKept();
        x.need(0, 0);
        Due.archived(x, "fame 1 y=0;fame 2 y=9;fame 4 y>9");
        int[][] due = {{0, 11}, {1, 10}, {9, 12}, {10, 11}, {19, 12}, {20, 11}, {59, 12}, {60, 11}};
        for (int[] d : due) {
            Due.due("year " + d[0], x.worth(0, d[0], 3), d[1]);
        }
    }

    static void t1_cIsTheYearBy10Modulo10() {
        EclipsesKept x = new EclipsesKept();
        x.need(0, 0);
        Due.archived(x, "fame 1 c=0;fame 2 c=1;fame 4 c=9;fame 8 c>9");
        for (int k = 0; k < 50; k++) {
            x.spare(0);
        }
        int[][] due = {{50, 10}, {89, 10}, {90, 14}, {99, 14}, {100, 11}, {109, 11}, {110, 12}};
        for (int[] d : due) {
            Due.due("year " + d[0], x.worth(0, d[0] - 50, 3), d[1]);
        }
        Due.due("year 50 is not 0", x.of(0, 3), 10);
    }

    static void t1_cIsCut() {
        EclipsesKept x = new EclipsesKept();
        x.need(0, 0);
        Due.archived(x, "fame 1 c=1");
        Due.due("year 9", x.worth(0, 9, 3), 10);
        Due.due("year 10", x.worth(0, 10, 3), 11);
        Due.due("year 19", x.worth(0, 19, 3), 11);
        Due.due("year 20", x.worth(0, 20, 3), 10);
    }

    static void t1_dIsFrom0To8() {
        EclipsesKept x = new EclipsesKept();
        x.need(0, 0);
        Due.archived(x, "fame 1 d<1;fame 2 d>7");
        Due.due("0", x.worth(0, 0, 0), 11);
        Due.due("1", x.worth(0, 0, 1), 10);
        Due.due("7", x.worth(0, 0, 7), 10);
        Due.due("8", x.worth(0, 0, 8), 12);
    }

    static void t1_iAndKAreFrom0To5AndTo6() {
        EclipsesKept x = new EclipsesKept();
        for (int k = 0; k < 5; k++) {
            x.need(0, 0);
        }
        x.need(6, 0);
        Due.archived(x, "fame 1 i=0;fame 2 i>4;fame 4 k>5;fame 8 k<1");
        Due.due("the first", x.of(0, 3), 19);
        Due.due("the fifth", x.of(4, 3), 18);
        Due.due("the sixth", x.of(5, 3), 8);
    }

    static void t1_andBindsMoreThanOr() {
        EclipsesKept x = new EclipsesKept();
        x.need(0, 0);
        Due.archived(x, "fame 1 i=0|i=0&i=1;fame 2 i=1&i=0|i=0;fame 4 (i=0|i=0)&i=1;fame 8 !i=1|i=0&i=1");
        Due.due("all but the third", x.of(0, 3), 10 + 1 + 2 + 8);
    }

    static void t1_notIsOfOneFactorAlone() {
        EclipsesKept x = new EclipsesKept();
        x.need(0, 0);
        Due.archived(x, "fame 1 !i=0&i=1;fame 2 !i=1&i=0;fame 4 !(i=0&i=1);fame 8 !i=0|i=0;fame 16 !(i=0|i=0)");
        Due.due("the second, third, fourth", x.of(0, 3), 10 + 2 + 4 + 8);
    }

    static void t1_keepIsTheLastOnes() {
        EclipsesKept x = new EclipsesKept();
        Due.archived(x, "keep 5;fame 1 i=0;keep 7");
        Due.due("the last", x.told(3), 7);
        Due.archived(x, "keep 5;keep 0");
        Due.due("a last 0", x.told(3), 0);
        Due.archived(x, "fame 1 i=0");
        Due.due("without one", x.told(3), 1);
    }

    // ---- promise 10

    static void p10_faultIsTheEndIfTheTextEndsTooEarly() {
        String whole = "shame 12 !(i=1|k<2)";
        for (int k = 0; k < whole.length(); k++) {
            fault(whole.substring(0, k), k);
        }
        good(whole);
        fault("keep", 4);
        fault("keep ", 5);
        fault("keep 1;", 7);
    }

    static void p10_faultIsTheFirstOfSeveral() {
        fault("fame x y", 5);
        fault("xxxx", 0);
        fault("keep 1;fume 1", 8);
    }

    static void p10_hundredBytesCanBeAnArchive() {
        String most = "keep 1;keep 2;fame 1 " + "i=1|".repeat(19) + "i<9";
        Due.due("the length", most.length(), 100);
        good(most);
    }

    static void p10_faultAtTheHundredthByteOrBehindIt() {
        String begun = "keep 1;keep 22;fame 1 " + "i=1|".repeat(19) + "i";
        Due.due("the length", begun.length(), 99);
        fault(begun + "x", 99);
        fault(begun + "<", 100);
    }

    static void p10_sixArchivesAreTakenASeventhIsFull() {
        EclipsesKept x = new EclipsesKept();
        for (int k = 0; k < 6; k++) {
            Due.due("archive " + k, Due.archived(x, "keep " + k), k);
            Due.due("holds", x.told(3), k);
        }
        Due.due("a seventh", Due.archived(x, "keep 9"), FULL);
        Due.due("the sixth holds", x.told(3), 5);
        Due.due("count(1)", x.count(1), 6);
    }

    static void p10_fullLeavesTheText() {
        EclipsesKept x = new EclipsesKept();
        for (int k = 0; k < 6; k++) {
            Due.archived(x, "keep 1");
        }
        Due.due("full", Due.archived(x, "keep 9"), FULL);
        Due.due("count(5)", x.count(5), 6);
        Due.due("more comes behind it", x.feed('9'), 7);
        Due.due("full even with a fault", x.archive(), FULL);
        Due.due("count(5)", x.count(5), 7);
    }

    static void p10_fullEvenWithoutAText() {
        EclipsesKept x = new EclipsesKept();
        for (int k = 0; k < 6; k++) {
            Due.archived(x, "keep 1");
        }
        Due.due("full", x.archive(), FULL);
    }

    static void p10_behindAFaultTheTextIsEmpty() {
        EclipsesKept x = new EclipsesKept();
        Due.archived(x, "keep");
        Due.due("count(5)", x.count(5), 0);
        Due.due("the next text", Due.archived(x, "keep 3"), 0);
    }

    static void p10_behindAnArchiveTheTextIsEmpty() {
        EclipsesKept x = new EclipsesKept();
        Due.archived(x, "keep 3");
        Due.due("count(5)", x.count(5), 0);
        Due.due("the empty text", x.archive(), -10);
        Due.due("that held holds", x.told(3), 3);
    }

    static void p10_withAFaultTheOneThatHeldHolds() {
        EclipsesKept x = new EclipsesKept();
        x.need(0, 0);
        Due.archived(x, "keep 3;fame 5 i=0");
        // All but the last byte is right.
        Due.due("a fault", Due.archived(x, "keep 4;fame 6 i=0;"), -28);
        Due.due("keep", x.told(3), 3);
        Due.due("fame", x.of(0, 3), 15);
        Due.due("count(1)", x.count(1), 1);
        Due.due("the next one's number", Due.archived(x, "keep 5"), 1);
    }

    static void p10_faultsTakeNoPlaceOfTheSix() {
        EclipsesKept x = new EclipsesKept();
        for (int k = 0; k < 8; k++) {
            Due.due("a fault", Due.archived(x, "x"), -10);
        }
        Due.due("the first archive", Due.archived(x, "keep 2"), 0);
    }

    // ---- promise 11

    static void p11_whatIs0To3() {
        EclipsesKept x = new EclipsesKept();
        x.need(0, 0);
        x.spare(0);
        int[] due = {1, 3, -3, 1};
        for (int what = 0; what < 4; what++) {
            Due.due("told(" + what + ")", x.told(what), due[what]);
        }
    }

    static void p11_whatBelow0OrAbove3IsNone() {
        EclipsesKept x = new EclipsesKept();
        Due.due("told(-1)", x.told(-1), FAR_NONE);
        Due.due("told(4)", x.told(4), FAR_NONE);
        Due.due("told(least)", x.told(Integer.MIN_VALUE), FAR_NONE);
        Due.due("told(greatest)", x.told(Integer.MAX_VALUE), FAR_NONE);
    }
}
