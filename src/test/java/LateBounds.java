/**
 * The bounds that no object meets within the 512 calls that are promised: the document names
 * them, and the class holds them behind these calls too.
 */
final class LateBounds {
    private static final int FAR_BAD = -10000002, MOST_GLORY = 999999, LAST_YEAR = 9999;

    private LateBounds() {
    }

    private static EclipsesKept by(String archive) {
        EclipsesKept x = new EclipsesKept();
        x.need(0, 0);
        Due.due("archive", Due.archived(x, archive), 0);
        return x;
    }

    /** Serves for 505 each time; all darks but the last two are spent behind it. */
    private static EclipsesKept famous(int times) {
        EclipsesKept x = by("fame 99 i=0;".repeat(5) + "keep 0");
        for (int k = 0; k < times; k++) {
            x.serve(0);
            x.darks(3);
        }
        return x;
    }

    /** Spares at 792 each time. */
    private static EclipsesKept shamed(int times) {
        EclipsesKept x = by("keep 99");
        x.darks(8);
        for (int k = 0; k < times; k++) {
            x.spare(0);
        }
        return x;
    }

    static void t1_gloryIsHeldToTheGreatest() {
        EclipsesKept x = famous(1980);
        Due.due("below it", x.told(2), 1980 * 505);
        Due.due("held", x.serve(0), MOST_GLORY);
        Due.due("told(2)", x.told(2), MOST_GLORY);
        Due.due("no more than that", x.serve(0), MOST_GLORY);
    }

    static void t1_gloryCanBeTheGreatest() {
        // 999900 and, by another archive, 99 more.
        EclipsesKept x = famous(1980);
        Due.archived(x, "fame 79 i=0;keep 0");
        x.serve(0);
        Due.due("one below", x.told(2), 999989);
        Due.archived(x, "keep 0");
        Due.due("just it", x.serve(0), MOST_GLORY);
    }

    static void t1_gloryIsHeldToTheLeast() {
        EclipsesKept x = shamed(1262);
        Due.due("above it", x.told(2), -1262 * 792);
        Due.due("held", x.spare(0), -MOST_GLORY);
        Due.due("no less than that", x.spare(0), -MOST_GLORY);
    }

    static void t1_gloryCanBeTheLeast() {
        EclipsesKept x = shamed(1262);
        // 495 less: one dark at 99, then five at 99.
        x.darks(5);
        Due.due("behind 495", x.spare(0), -999504 - 495);
        x.darks(1);
        Due.due("held", x.spare(0), -MOST_GLORY);
    }

    static void t2_gainIsNotHeld() {
        EclipsesKept x = famous(1981);
        Due.due("glory", x.told(2), MOST_GLORY);
        Due.due("mean(1, 0)", x.mean(1, 0), 505);
        Due.due("greedy(1, 0)", x.greedy(1, 0), 505);
        Due.due("only(1, 1, 0)", x.only(1, 1, 0), 505);
        Due.due("wise(0, 1)", x.wise(0, 1), 1);
        x.century(0);
        Due.due("plan(1)", x.plan(1), 505);
        Due.due("ends(1)", x.ends(1), 505);
        EclipsesKept y = shamed(1263);
        Due.due("glory", y.told(2), -MOST_GLORY);
        Due.due("only(0, 1, 0)", y.only(0, 1, 0), -792);
        y.century(0);
        Due.due("ends(0)", y.ends(0), -792);
    }

    private static EclipsesKept inYear(int year) {
        EclipsesKept x = by("keep 0");
        for (int k = 0; k < year; k++) {
            x.spare(0);
        }
        Due.due("year", x.told(0), year);
        return x;
    }

    static void p05_inYear9998ItIsServedIn9999Bad() {
        EclipsesKept x = inYear(LAST_YEAR - 1);
        Due.due("9998", x.serve(0), 10);
        Due.due("9999", x.serve(0), FAR_BAD);
        Due.due("year", x.told(0), LAST_YEAR);
        Due.due("darks", x.told(1), 2);
        Due.due("served", x.of(0, 2), 1);
        Due.due("glory", x.told(2), 10);
    }

    static void p05_servedUpTo9999() {
        EclipsesKept x = by("shame 10 i=0;keep 0");
        for (int k = 0; k < 9999; k++) {
            x.darks(8);
            x.serve(0);
        }
        Due.due("served", x.of(0, 2), 9999);
        Due.due("once more", x.serve(0), FAR_BAD);
        Due.due("served", x.of(0, 2), 9999);
        x.book(0, 9999);
        Due.due("looked()", x.looked(), -5);
    }

    static void p06_inYear9998ItIsSparedIn9999Bad() {
        EclipsesKept x = inYear(LAST_YEAR - 1);
        Due.due("9998", x.spare(0), 0);
        Due.due("9999", x.spare(0), FAR_BAD);
        Due.due("year", x.told(0), LAST_YEAR);
    }

    static void p06_noneComesAheadOfBad() {
        EclipsesKept x = inYear(LAST_YEAR);
        Due.due("spare(1)", x.spare(1), -10000001);
        Due.due("serve(1)", x.serve(1), -10000001);
    }

    static void t1_inYear9999YIs9AndCIs9() {
        EclipsesKept x = inYear(LAST_YEAR);
        Due.archived(x, "fame 1 y=9;fame 2 c=9;fame 4 y>9|c>9");
        Due.due("worth", x.of(0, 3), 13);
        // What is asked goes on behind the last year.
        Due.due("a year later", x.worth(0, 1, 3), 10);
    }
}
