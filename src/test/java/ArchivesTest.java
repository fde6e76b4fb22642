/** Promises 9 to 11: the text, archives and their faults, what is told. */
public final class ArchivesTest {
    private static void feed() {
        EclipsesKept x = new EclipsesKept();
        Due.due("9: -1", x.feed(-1), -2);
        Due.due("9: 128", x.feed(128), -2);
        Due.due("9: 0", x.feed(0), 1);
        Due.due("9: 127", x.feed(127), 2);
        for (int k = 3; k <= 100; k++) {
            Due.due("9: " + k, x.feed(k), k);
        }
        Due.due("9: full", x.feed(65), -4);
        Due.due("9: bad ahead of full", x.feed(128), -2);
        Due.due("9: 100", x.count(5), 100);
        Due.due("9: a nought is no clause", x.archive(), -10);
        Due.due("9: empty then", x.count(5), 0);
    }

    private static void fault(String text, int place) {
        EclipsesKept x = new EclipsesKept();
        Due.due("10: archive of '" + text + "'", Due.archived(x, text), place < 0 ? 0 : -10 - place);
        Due.due("10: is empty then", x.count(5), 0);
        Due.due("10: how many", x.count(1), place < 0 ? 1 : 0);
    }

    private static final int GOOD = -1;

    private static void faults() {
        fault("", 0);
        fault("x", 0);
        fault(" keep 1", 0);
        fault("k", 1);
        fault("kept", 2);
        fault("keepx", 4);
        fault("fameshame", 4);
        fault("shame", 5);
        fault("shame  1", 6);
        fault("keep 1", GOOD);
        fault("keep 12", GOOD);
        fault("keep 00", GOOD);
        fault("keep 123", 7);
        fault("keep 1 ", 6);
        fault("keep x", 5);
        fault("keep :", 5);
        fault("keep /", 5);
        fault("keep 1:", 6);
        fault("keep ;", 5);
        fault("keep 1;", 7);
        fault("keep 1;;", 7);
        fault("keep 1;keep 2;fame 1 i=1", GOOD);
        fault("fame 1", 6);
        fault("fame 1;", 6);
        fault("fame 1 ", 7);
        fault("fame 1  i=1", 7);
        fault("fame 1 i", 8);
        fault("fame 1 i=", 9);
        fault("fame 1 i=1", GOOD);
        fault("fame 1 i=12", GOOD);
        fault("fame 1 i=123", 11);
        fault("fame 1 i!1", 8);
        fault("fame 1 i1", 8);
        fault("fame 1 =1", 7);
        fault("fame 1 1", 7);
        fault("fame 1 i<=1", 9);
        fault("fame 1 i>-1", 9);
        fault("fame 1 I=1", 7);
        fault("fame 1 i=1&", 11);
        fault("fame 1 i=1&&i=1", 11);
        fault("fame 1 i=1|k=2&v=3|y<4&c>5&d=6", GOOD);
        fault("fame 1 i=1)", 10);
        fault("fame 1 (i=1", 11);
        fault("fame 1 (i=1;", 11);
        fault("fame 1 (i=1))", 12);
        fault("fame 1 ()", 8);
        fault("fame 1 (i=1)i=1", 12);
        fault("fame 1 !", 8);
        fault("fame 1 !!!!i=1", GOOD);
        fault("fame 1 !!!!!i=1", 11);
        fault("fame 1 !(!(i=1))", GOOD);
        fault("fame 1 !(!((i=1)))", 11);
        fault("fame 1 !(!(!i=1))", 11);
        fault("fame 1 ((((i=1))))&((((i=1))))", GOOD);
        fault("fame 1 (((((i=1)))))", 11);
        fault("fame 1 !!!!i=1&!!!!i=1|(!!!i=1)", GOOD);
        fault("fame 1 (!!!!i=1)", 11);
        fault("fame 1 (!!!i=1&!i=1)", GOOD);
        fault("fame 1 i=1 ", 10);
        fault("keep 1\n", 6);
    }

    private static void mostClauses() {
        String ten = "keep 1;keep 2;keep 3;keep 4;keep 5;keep 6;keep 7;keep 8;keep 9;keep 0";
        fault(ten, GOOD);
        fault(ten + ";", 69);
        fault(ten + ";keep 1", 69);
        // All of THE TEXT's 100 bytes: a clause may end with the last one.
        String most = "fame 1 " + "i=1|".repeat(21);
        fault(most + "i=10|i=10", GOOD);
        fault(most + "i=1|i=10|", 100);
        fault(most + "i=1|i=1|i", 100);
        fault(most + "i=1|i=10;", 100);
        fault(most + "i=1|i=100", 99);
    }

    /** A need of kind 6 and v 3, number 1, in year 47 with 2 darks: whether the test holds. */
    private static void holds(String test, int whether) {
        EclipsesKept x = new EclipsesKept();
        x.need(0, 0);
        x.need(6, 3);
        Due.due("10: " + test, Due.archived(x, "fame 20 " + test), 0);
        // BASE 10 or 30, halved for a TOLD one.
        Due.due("10: whether " + test, x.worth(1, 47, 2), whether == 1 ? 15 : 5);
    }

    private static void meaning() {
        String[] yes = {"i=1", "k=6", "v=3", "y=7", "c=4", "d=2", "i<2", "i>0", "k<7", "k>5", "d<10", "d>01",
            "!i=0", "!!i=1", "i=1|i=0&i=0", "i=0&i=0|i=1", "(i=0|i=1)&d=2", "!i=0&d=2", "!(i=1&d=1)",
            "!i=0|i=0", "i=0|i=0|i=1", "i=1&k=6&v=3&y=7&c=4&d=2", "!(!(i=1))", "i=0|(i=1&(d=2|d=3))"};
        String[] no = {"i=0", "i=10", "k=3", "v=4", "y=4", "c=7", "d=3", "i<1", "i>1", "d<2", "d>2", "!i=1",
            "!!i=0", "(i=1|i=0)&i=0", "i=0&(i=0|i=1)", "!i=1&d=2", "!(i=1|d=1)", "!i=1|i=0", "i=1&k=6&v=9",
            "!(i=0&i=0|i=1)", "!i=0&i=0"};
        for (String test : yes) {
            holds(test, 1);
        }
        for (String test : no) {
            holds(test, 0);
        }
    }

    /** In year 110 y is 0 and c is 1. */
    private static void lateYears() {
        EclipsesKept x = new EclipsesKept();
        x.need(0, 0);
        Due.archived(x, "fame 1 c=1&y=0;fame 2 c=0&y=9");
        for (int k = 0; k < 50; k++) {
            x.spare(0);
        }
        Due.due("10: year 110", x.worth(0, 60, 0), 11);
        Due.due("10: year 109", x.worth(0, 59, 0), 12);
        Due.due("10: year 100", x.worth(0, 50, 0), 10);
        Due.due("10: year 99", x.worth(0, 49, 0), 10);
    }

    private static void clausesTogether() {
        EclipsesKept x = new EclipsesKept();
        x.need(0, 0);
        Due.due("10: first", Due.archived(x, "fame 30 i=0;shame 12 i=0;fame 50 i=1;keep 7;fame 1 d<9;keep 3"), 0);
        Due.due("10: base", x.of(0, 3), 29);
        Due.due("10: the last keep", x.told(3), 3);
        Due.due("10: second", Due.archived(x, "shame 99 i=0"), 1);
        Due.due("10: the newest holds", x.of(0, 3), 0);
        Due.due("10: keep is 1 without", x.told(3), 1);
        Due.due("10: third", Due.archived(x, "keep 0"), 2);
        Due.due("10: keep 0", x.told(3), 0);
        Due.due("10: a fault", Due.archived(x, "keep 9;"), -17);
        Due.due("10: that held holds", x.told(3), 0);
        Due.due("10: fourth", Due.archived(x, "keep 4"), 3);
        Due.due("10: fifth", Due.archived(x, "keep 5"), 4);
        Due.due("10: sixth", Due.archived(x, "keep 6"), 5);
        Due.due("10: full", Due.archived(x, "keep 8"), -4);
        Due.due("10: the text stays", x.count(5), 6);
        Due.due("10: full ahead of a fault", Due.archived(x, ";"), -4);
        Due.due("10: the text stays", x.count(5), 7);
        Due.due("10: six", x.count(1), 6);
        Due.due("10: the sixth holds", x.told(3), 6);
    }

    private static void told() {
        EclipsesKept x = new EclipsesKept();
        x.need(0, 0);
        x.darks(4);
        x.spare(0);
        x.serve(0);
        Due.due("11: year", x.told(0), 2);
        Due.due("11: darks", x.told(1), 3);
        Due.due("11: glory", x.told(2), -4 + 10 - 3);
        Due.due("11: keep", x.told(3), 1);
        Due.due("11: what 4", x.told(4), -10000001);
        Due.due("11: what -1", x.told(-1), -10000001);
    }

    public static void main(String[] args) {
        feed();
        faults();
        mostClauses();
        meaning();
        lateYears();
        clausesTogether();
        told();
        Due.end("ArchivesTest");
    }
}
