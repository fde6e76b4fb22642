/** The bounds of the image, of acts, kinds and counts: Terms 2, promises 29 to 34. */
final class ActsBounds {
    private static final int NONE = -1, BAD = -2, STATE = -3, NOTHING = -11, CAST = -12;
    private static final int LEAST = Integer.MIN_VALUE, MOST = Integer.MAX_VALUE;

    private ActsBounds() {
    }

    private static EclipsesKept one(int kind, int v) {
        EclipsesKept x = new EclipsesKept();
        x.need(kind, v);
        return x;
    }

    /** Five of kind 0 and, as number 5, one of a kind. */
    private static EclipsesKept sixth(int kind, int v) {
        EclipsesKept x = new EclipsesKept();
        for (int k = 0; k < 5; k++) {
            x.need(0, 0);
        }
        x.need(kind, v);
        return x;
    }

    private static void act(EclipsesKept x, int need, int act, int with, int due, int... bodies) {
        String call = "act(" + need + ", " + act + ", " + with + ")";
        Due.due(call, x.act(need, act, with), due);
        Due.due("bodies of " + call, x.count(6), bodies.length);
        for (int k = 0; k < bodies.length; k++) {
            Due.due("trace(" + k + ") of " + call, x.trace(k), bodies[k]);
        }
        Due.due("behind " + call, x.trace(bodies.length), NONE);
    }

    // ---- the image

    static void p29_imageOfNothing() {
        EclipsesKept x = new EclipsesKept();
        Due.due("image()", x.image(), 0);
        x.need(0, 0);
        x.darks(7);
        Due.due("undo()", x.undo(), 0);
        Due.due("needs", x.count(0), 0);
        Due.due("darks", x.told(1), 3);
        Due.due("keep", x.told(3), 1);
    }

    static void p29_imageOfSixNeeds() {
        EclipsesKept x = sixth(6, 9);
        x.row(5, 3, 8);
        Due.due("image()", x.image(), 6);
        x.row(5, 3, 1);
        Due.due("undo()", x.undo(), 6);
        Due.due("the sixth's row", x.row(5, 3, 0), 8);
        Due.due("a seventh", x.need(0, 0), -4);
    }

    static void p29_aNewImageStandsForTheOldOne() {
        EclipsesKept x = one(0, 0);
        x.image();
        x.spare(0);
        Due.due("image()", x.image(), 1);
        x.spare(0);
        Due.due("undo()", x.undo(), 1);
        Due.due("year", x.told(0), 1);
    }

    static void p30_withoutAnImageState() {
        EclipsesKept x = one(0, 0);
        x.spare(0);
        Due.due("undo()", x.undo(), STATE);
        Due.due("year", x.told(0), 1);
        Due.due("needs", x.count(0), 1);
        Due.due("glory", x.told(2), -3);
    }

    static void p30_theImageStaysForMore() {
        EclipsesKept x = one(0, 0);
        x.image();
        for (int k = 0; k < 3; k++) {
            x.serve(0);
            Due.due("undo()", x.undo(), 1);
            Due.due("year", x.told(0), 0);
            Due.due("served", x.of(0, 2), 0);
            Due.due("darks", x.told(1), 3);
        }
    }

    static void p30_gloryComesBack() {
        EclipsesKept x = one(0, 0);
        x.serve(0);
        x.image();
        x.serve(0);
        x.undo();
        Due.due("glory", x.told(2), 8);
    }

    static void p30_theArchiveThatHeldHolds() {
        EclipsesKept x = one(0, 0);
        Due.archived(x, "keep 4;fame 3 i=0");
        x.image();
        Due.archived(x, "keep 5");
        x.undo();
        Due.due("keep", x.told(3), 4);
        Due.due("worth", x.of(0, 3), 13);
        Due.due("archives", x.count(1), 2);
    }

    static void p30_noArchiveHeld() {
        EclipsesKept x = one(0, 0);
        x.image();
        Due.archived(x, "keep 5;fame 3 i=0");
        x.undo();
        Due.due("keep", x.told(3), 1);
        Due.due("worth", x.of(0, 3), 10);
        Due.due("the next one's number", Due.archived(x, "keep 2"), 1);
    }

    static void p30_undoneArchivesStillCountForTheSix() {
        EclipsesKept x = new EclipsesKept();
        x.image();
        for (int k = 0; k < 6; k++) {
            Due.archived(x, "keep 7");
        }
        x.undo();
        Due.due("a seventh", Due.archived(x, "keep 2"), -4);
        Due.due("keep", x.told(3), 1);
    }

    static void p30_centuryComesBack() {
        EclipsesKept x = new EclipsesKept();
        x.need(0, 0);
        x.need(3, 0);
        Due.archived(x, "keep 0");
        for (int k = 0; k < 7; k++) {
            x.century(1);
        }
        x.century(0);
        x.darks(1);
        x.image();
        x.century(-1);
        x.century(0);
        x.undo();
        Due.due("years", x.count(2), 8);
        Due.due("the eighth is the dearest", x.plan(0), 128);
        Due.due("plan(1)", x.plan(1), 10);
    }

    static void p30_anEmptyCenturySeenAndBookComeBack() {
        EclipsesKept x = one(0, 0);
        x.image();
        x.century(0);
        x.see(0, 1, 1);
        x.book(0, 1);
        x.undo();
        Due.due("CENTURY", x.count(2), 0);
        Due.due("SEEN", x.count(3), 0);
        Due.due("BOOK", x.count(4), 0);
        Due.due("can(0, 0)", x.can(0, 0), 10);
        Due.due("looked()", x.looked(), -5);
    }

    static void p30_seenComesBack() {
        // In year 1 a BIRD is worth its v, in year 2 ten more.
        EclipsesKept x = new EclipsesKept();
        x.need(5, 0);
        x.need(5, 3);
        for (int k = 0; k < 4; k++) {
            x.see(0, 7, 1);
        }
        x.see(1, 13, 2);
        x.image();
        x.see(-1, 0, 0);
        for (int k = 0; k < 4; k++) {
            x.see(1, 12, 2);
        }
        x.see(0, 0, 1);
        Due.due("other, of the second", x.can(1, 1), 2);
        x.undo();
        Due.due("SEEN", x.count(3), 5);
        Due.due("of the first", x.can(0, 1), 7);
        Due.due("of the first", x.can(0, 0), 1);
        Due.due("full", x.see(0, 0, 0), -4);
    }

    static void p30_bookComesBack() {
        EclipsesKept x = new EclipsesKept();
        x.need(0, 0);
        x.need(0, 0);
        x.serve(1);
        for (int k = 0; k < 7; k++) {
            x.book(1, 1);
        }
        x.book(0, 5);
        x.image();
        x.book(-1, 0);
        for (int k = 0; k < 8; k++) {
            x.book(0, 0);
        }
        Due.due("other", x.looked(), -5);
        x.undo();
        Due.due("BOOK", x.count(4), 8);
        Due.due("the eighth", x.looked(), 7);
        Due.due("full", x.book(0, 0), -4);
    }

    static void p30_theBooksNeedsComeBack() {
        EclipsesKept x = new EclipsesKept();
        x.need(0, 0);
        x.need(0, 0);
        x.book(1, 0);
        x.image();
        x.book(-1, 0);
        x.book(0, 0);
        x.undo();
        x.serve(0);
        Due.due("the first is served", x.looked(), -5);
        x.serve(1);
        Due.due("the second is served", x.looked(), 0);
    }

    static void p30_whatIsNotInTheImageStays() {
        EclipsesKept x = one(0, 4);
        x.image();
        Due.fed(x, "keep 8");
        x.tape(5, 3, 2);
        x.item(5, 1, 9);
        x.act(0, 1, 1);
        x.undo();
        Due.due("THE TEXT", x.count(5), 6);
        Due.due("TAPES", x.read(5, 1), 9);
        Due.due("THE TRACE", x.trace(1), 10);
        Due.due("bodies", x.count(6), 2);
        x.archive();
        Due.due("THE TEXT's keep", x.told(3), 8);
    }

    // ---- acts

    static void p31_actsAre0To2() {
        EclipsesKept x = one(0, 4);
        act(x, 0, 0, 9, 9, 10);
        act(x, 0, 1, 9, 5, 11, 10);
        act(x, 0, 2, 9, 10, 12, 11, 10);
    }

    static void p31_actBelow0OrAbove2Is0AndNoTrace() {
        for (int act : new int[] {-1, 3, LEAST, MOST}) {
            EclipsesKept x = one(0, 4);
            act(x, 0, 2, 9, 10, 12, 11, 10);
            act(x, 0, act, 9, 0);
            Due.due("trace(0)", x.trace(0), NONE);
        }
    }

    static void p31_needThatIsNotThereIs0AndNoTrace() {
        for (int need : new int[] {-1, 1, LEAST, MOST}) {
            EclipsesKept x = one(0, 4);
            act(x, 0, 2, 9, 10, 12, 11, 10);
            act(x, need, 0, 9, 0);
            Due.due("trace(0)", x.trace(0), NONE);
        }
    }

    static void t2_xAndIWrap() {
        act(sixth(0, 0), 5, 0, MOST, LEAST + 4, 10);
        act(sixth(0, 0), 5, 0, MOST - 5, MOST, 10);
        act(sixth(0, 0), 5, 0, MOST - 4, LEAST, 10);
    }

    static void t2_lessVWraps() {
        act(one(0, 9), 0, 1, LEAST, MOST - 8, 11, 10);
        act(one(0, 9), 0, 1, LEAST + 9, LEAST, 11, 10);
        act(one(0, 9), 0, 1, LEAST + 8, MOST, 11, 10);
    }

    static void t2_twiceWraps() {
        act(one(0, 0), 0, 2, 1 << 30, LEAST, 12, 11, 10);
        act(one(0, 0), 0, 2, (1 << 30) - 1, MOST - 1, 12, 11, 10);
        act(one(0, 0), 0, 2, LEAST, 0, 12, 11, 10);
        act(one(0, 0), 0, 2, MOST, -2, 12, 11, 10);
    }

    static void t2_siegesSixIsOfTheWrapped() {
        act(one(1, 1), 0, 1, LEAST, MOST - 6, 20, 11, 10);
        act(one(1, 0), 0, 1, -1, -1 ^ 6, 20, 11, 10);
    }

    static void t2_thriceWraps() {
        // 3 * 715827883 is 2^31 + 1.
        act(one(2, 0), 0, 0, 715827883, LEAST + 1, 30, 10);
        act(one(2, 0), 0, 0, 715827882, MOST - 1, 30, 10);
        act(one(2, 0), 0, 0, LEAST, LEAST, 30, 10);
        act(one(2, 0), 0, 0, MOST, MOST - 2, 30, 10);
    }

    static void t2_photosSumWraps() {
        // 2 * (x - 9) and 1 - 9.
        act(one(3, 9), 0, 2, LEAST, -18 - 8, 40, 12, 11, 10, 11, 10);
        act(one(3, 9), 0, 2, LEAST / 2 + 9, LEAST - 8, 40, 12, 11, 10, 11, 10);
    }

    static void t2_childsNegativeWraps() {
        act(one(4, 0), 0, 0, LEAST, LEAST, 50, 10);
        act(one(4, 0), 0, 0, MOST, LEAST + 1, 50, 10);
        act(one(4, 0), 0, 0, 0, 0, 50, 10);
    }

    static void t2_childsOneMoreWraps() {
        // -(least) is least; and 6 by its lowest bits.
        act(one(4, 0), 0, 1, MOST, LEAST ^ 6, 51, 20, 11, 50, 10);
    }

    static void t2_birdsLessIWraps() {
        // x - 5, thrice that, 5 more, 2 less, twice all.
        int x = LEAST;
        int due = ((x - 5) * 3 + 5 - 2) * 2;
        Due.due("reckoned by hand", due, -24);
        act(sixth(5, 2), 5, 2, x, due, 60, 12, 11, 30, 10);
    }

    static void t2_toldOnesSumWraps() {
        // ((x + 0) ^ 1) - 1 and 2.
        act(one(6, 1), 0, 1, MOST, MOST - 2 + 2, 70, 11, 71, 10, 10);
        act(one(6, 1), 0, 1, LEAST, LEAST + 2, 70, 11, 71, 10, 10);
        act(one(6, 1), 0, 1, LEAST + 1, MOST + 2, 70, 11, 71, 10, 10);
    }

    static void t2_toldOnesVIsOfItsBits() {
        act(one(6, 9), 0, 0, -1, -10, 71, 10);
        act(one(6, 9), 0, 0, 9, 0, 71, 10);
    }

    // ---- the trace

    static void p32_iBelow0OrBehindTheLastIsNone() {
        EclipsesKept x = one(0, 0);
        x.act(0, 1, 0);
        Due.due("trace(0)", x.trace(0), 11);
        Due.due("trace(1)", x.trace(1), 10);
        for (int i : new int[] {-1, 2, 19, 20, LEAST, MOST}) {
            Due.due("trace(" + i + ")", x.trace(i), NONE);
        }
    }

    static void p32_withoutAnActNone() {
        EclipsesKept x = one(0, 0);
        Due.due("trace(0)", x.trace(0), NONE);
        Due.due("count(6)", x.count(6), 0);
    }

    static void t2_ofTheLatestActAlone() {
        EclipsesKept x = one(0, 0);
        x.act(0, 2, 0);
        x.act(0, 0, 0);
        Due.due("trace(0)", x.trace(0), 10);
        Due.due("trace(1)", x.trace(1), NONE);
        Due.due("count(6)", x.count(6), 1);
    }

    static void t2_theLongestTraceIsKeptWhole() {
        // No act runs more than twelve bodies, fewer than the 20 that are kept.
        act(one(6, 5), 0, 2, 3, 7, 40, 12, 70, 11, 71, 10, 10, 70, 11, 71, 10, 10);
    }

    // ---- kinds

    static void p33_kIs0To6() {
        EclipsesKept x = one(6, 0);
        Due.due("taken(0, 0)", x.taken(0, 0), 6);
        Due.due("taken(0, 6)", x.taken(0, 6), 6);
        for (int k : new int[] {-1, 7, LEAST, MOST}) {
            Due.due("taken(0, " + k + ")", x.taken(0, k), BAD);
        }
    }

    static void p33_needThatIsNotThereIsNothing() {
        EclipsesKept x = one(6, 0);
        for (int need : new int[] {-1, 1, LEAST, MOST}) {
            Due.due("taken(" + need + ", 0)", x.taken(need, 0), NOTHING);
        }
    }

    static void p33_badComesAheadOfNothing() {
        EclipsesKept x = one(6, 0);
        Due.due("taken(1, 7)", x.taken(1, 7), BAD);
        Due.due("taken(-1, -1)", x.taken(-1, -1), BAD);
    }

    static void p33_oneUnderItIsTaken() {
        int[][] above = {{0}, {1, 0}, {2, 0}, {3, 0}, {4, 1, 0}, {5, 2, 0}, {6, 3, 0}};
        for (int kind = 0; kind <= 6; kind++) {
            for (int k : above[kind]) {
                Due.due("kind " + kind + " for " + k, one(kind, 0).taken(0, k), kind);
            }
        }
    }

    static void p33_oneAboveOrBesideItIsCast() {
        int[][] not = {{1, 2, 3, 4, 5, 6}, {2, 3, 4, 5, 6}, {1, 3, 4, 5, 6}, {1, 2, 4, 5, 6},
            {2, 3, 5, 6}, {1, 3, 4, 6}, {1, 2, 4, 5}};
        for (int kind = 0; kind <= 6; kind++) {
            for (int k : not[kind]) {
                Due.due("kind " + kind + " for " + k, one(kind, 0).taken(0, k), CAST);
            }
        }
    }

    // ---- counts

    static void p34_whatIs0To6() {
        EclipsesKept x = one(0, 0);
        x.act(0, 2, 0);
        Due.due("count(0)", x.count(0), 1);
        Due.due("count(6)", x.count(6), 3);
        for (int what : new int[] {-1, 7, LEAST, MOST}) {
            Due.due("count(" + what + ")", x.count(what), BAD);
        }
    }

    static void p34_allThatCanBeFull() {
        EclipsesKept x = sixth(0, 0);
        for (int k = 0; k < 6; k++) {
            Due.archived(x, "keep 1");
        }
        for (int k = 0; k < 8; k++) {
            x.century(0);
            x.see(0, 10, 0);
            x.book(0, 0);
        }
        Due.fed(x, "k".repeat(101));
        int[] due = {6, 6, 8, 5, 8, 100, 0};
        for (int what = 0; what <= 6; what++) {
            Due.due("count(" + what + ")", x.count(what), due[what]);
        }
    }
}
