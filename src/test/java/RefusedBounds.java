/** "What is answered so changes nothing": each call that is refused leaves all as it was. */
final class RefusedBounds {
    private static final int NONE = -1, BAD = -2, STATE = -3, FULL = -4;
    private static final int FAR_NONE = -10000001, FAR_BAD = -10000002;
    private static final int NOTHING = -11, CAST = -12, PLACE = -13, SIZE = -14;

    private RefusedBounds() {
    }

    static void p02_refusedNeedChangesNothing() {
        Twins.ofSome("need(7, 0)", NONE, x -> x.need(7, 0));
        Twins.ofSome("need(-1, 0)", NONE, x -> x.need(-1, 0));
        Twins.ofSome("need(0, 10)", BAD, x -> x.need(0, 10));
        Twins.ofSome("need(6, -1)", BAD, x -> x.need(6, -1));
        Twins.ofAll("need(6, 9)", FULL, x -> x.need(6, 9));
        Twins.ofNone("need(7, 0)", NONE, x -> x.need(7, 0));
    }

    static void p05_refusedServeChangesNothing() {
        Twins.ofSome("serve(4)", FAR_NONE, x -> x.serve(4));
        Twins.ofSome("serve(-1)", FAR_NONE, x -> x.serve(-1));
        Twins.ofNone("serve(0)", FAR_NONE, x -> x.serve(0));
        Twins.ofSome("serve(0) without a dark", FAR_BAD, x -> {
            int darks = x.darks(0);
            long answer = x.serve(0);
            x.darks(darks);
            return answer;
        });
    }

    static void p06_refusedSpareChangesNothing() {
        Twins.ofSome("spare(4)", FAR_NONE, x -> x.spare(4));
        Twins.ofSome("spare(-1)", FAR_NONE, x -> x.spare(-1));
        Twins.ofAll("spare(6)", FAR_NONE, x -> x.spare(6));
        Twins.ofNone("spare(0)", FAR_NONE, x -> x.spare(0));
    }

    static void p07_refusedDarksChangeNothing() {
        Twins.ofSome("darks(9)", BAD, x -> x.darks(9));
        Twins.ofSome("darks(-1)", BAD, x -> x.darks(-1));
        Twins.ofNone("darks(9)", BAD, x -> x.darks(9));
    }

    static void p08_refusedRowChangesNothing() {
        Twins.ofSome("row(4, 0, 1)", NONE, x -> x.row(4, 0, 1));
        Twins.ofSome("row(-1, 0, 1)", NONE, x -> x.row(-1, 0, 1));
        Twins.ofSome("row(0, 4, 1)", NONE, x -> x.row(0, 4, 1));
        Twins.ofSome("row(0, -1, 1)", NONE, x -> x.row(0, -1, 1));
        Twins.ofSome("row(0, 1, 10)", BAD, x -> x.row(0, 1, 10));
        Twins.ofSome("row(0, 1, -1)", BAD, x -> x.row(0, 1, -1));
        Twins.ofSome("row(1, 1, 9)", STATE, x -> x.row(1, 1, 9));
    }

    static void p09_refusedSignChangesNothing() {
        Twins.ofSome("feed(128)", BAD, x -> x.feed(128));
        Twins.ofSome("feed(-1)", BAD, x -> x.feed(-1));
        Twins.ofAll("feed('1')", FULL, x -> x.feed('1'));
    }

    static void p10_fullArchiveChangesNothing() {
        Twins.ofAll("archive()", FULL, EclipsesKept::archive);
    }

    static void p10_aFaultChangesTheTextAlone() {
        // The twin's text is an archive's, and the first one's has a fault behind it.
        EclipsesKept x = Twins.some();
        EclipsesKept y = Twins.some();
        Due.due("the fault", Due.fed(x, "eep 1;").archive(), -10 - 14);
        y.archive();
        Due.due("the text", x.count(5), 0);
        Due.due("keep", x.told(3), y.told(3));
        Due.due("archives", x.count(1), y.count(1));
        Due.due("worth", x.of(2, 3), y.of(2, 3));
    }

    static void p20_refusedCenturyChangesNothing() {
        Twins.ofSome("century(4)", NONE, x -> x.century(4));
        Twins.ofSome("century(-2)", NONE, x -> x.century(-2));
        Twins.ofAll("century(0)", FULL, x -> x.century(0));
        Twins.ofAll("century(6)", NONE, x -> x.century(6));
    }

    static void p23_refusedSightChangesNothing() {
        Twins.ofSome("see(4, 0, 0)", NONE, x -> x.see(4, 0, 0));
        Twins.ofSome("see(-2, 0, 0)", NONE, x -> x.see(-2, 0, 0));
        Twins.ofSome("see(0, 1000, 0)", BAD, x -> x.see(0, 1000, 0));
        Twins.ofSome("see(0, -1, 0)", BAD, x -> x.see(0, -1, 0));
        Twins.ofSome("see(0, 0, 21)", BAD, x -> x.see(0, 0, 21));
        Twins.ofSome("see(0, 0, -1)", BAD, x -> x.see(0, 0, -1));
        Twins.ofAll("see(0, 0, 0)", FULL, x -> x.see(0, 0, 0));
    }

    static void p26_refusedRowOfTheBookChangesNothing() {
        Twins.ofSome("book(4, 0)", NONE, x -> x.book(4, 0));
        Twins.ofSome("book(-2, 0)", NONE, x -> x.book(-2, 0));
        Twins.ofSome("book(0, 10000)", BAD, x -> x.book(0, 10000));
        Twins.ofSome("book(0, -1)", BAD, x -> x.book(0, -1));
        Twins.ofAll("book(0, 9)", FULL, x -> x.book(0, 9));
    }

    static void p30_refusedUndoChangesNothing() {
        Twins.ofNone("undo()", STATE, EclipsesKept::undo);
        EclipsesKept x = new EclipsesKept();
        x.need(1, 1);
        x.darks(6);
        x.spare(0);
        Due.archived(x, "keep 2");
        Due.due("undo()", x.undo(), STATE);
        Due.due("needs", x.count(0), 1);
        Due.due("darks", x.told(1), 6);
        Due.due("year", x.told(0), 1);
        Due.due("glory", x.told(2), -6);
        Due.due("keep", x.told(3), 2);
    }

    static void p31_refusedActEmptiesTheTraceAlone() {
        Twins.acts("act(4, 0, 1)", 0, x -> x.act(4, 0, 1));
        Twins.acts("act(-1, 0, 1)", 0, x -> x.act(-1, 0, 1));
        Twins.acts("act(0, 3, 1)", 0, x -> x.act(0, 3, 1));
        Twins.acts("act(0, -1, 1)", 0, x -> x.act(0, -1, 1));
    }

    static void p35_refusedTapeChangesNothing() {
        Twins.ofSome("tape(6, 2, 4)", NONE, x -> x.tape(6, 2, 4));
        Twins.ofSome("tape(-1, 2, 4)", NONE, x -> x.tape(-1, 2, 4));
        Twins.ofSome("tape(0, 5, 4)", BAD, x -> x.tape(0, 5, 4));
        Twins.ofSome("tape(0, -2, 4)", BAD, x -> x.tape(0, -2, 4));
        Twins.ofSome("tape(0, 2, 61)", BAD, x -> x.tape(0, 2, 61));
        Twins.ofSome("tape(0, 2, -1)", SIZE, x -> x.tape(0, 2, -1));
        Twins.ofSome("tape(5, 2, -1)", SIZE, x -> x.tape(5, 2, -1));
    }

    static void p36_refusedItemChangesNothing() {
        Twins.ofSome("item(6, 0, 9)", NONE, x -> x.item(6, 0, 9));
        Twins.ofSome("item(-1, 0, 9)", NONE, x -> x.item(-1, 0, 9));
        Twins.ofSome("item(5, 0, 9)", NOTHING, x -> x.item(5, 0, 9));
        Twins.ofSome("item(0, 4, 9)", PLACE, x -> x.item(0, 4, 9));
        Twins.ofSome("item(0, -1, 9)", PLACE, x -> x.item(0, -1, 9));
        Twins.ofSome("item(2, 0, 9)", PLACE, x -> x.item(2, 0, 9));
    }

    static void p38_refusedShiftChangesNothing() {
        Twins.ofSome("shift(6, 0, 0, 0, 1)", NONE, x -> x.shift(6, 0, 0, 0, 1));
        Twins.ofSome("shift(0, 0, 6, 0, 1)", NONE, x -> x.shift(0, 0, 6, 0, 1));
        Twins.ofSome("shift(0, 1, 5, 0, 1)", NOTHING, x -> x.shift(0, 1, 5, 0, 1));
        Twins.ofSome("shift(5, 0, 0, 1, 1)", NOTHING, x -> x.shift(5, 0, 0, 1, 1));
        Twins.ofSome("shift(0, 1, 1, 0, 1)", CAST, x -> x.shift(0, 1, 1, 0, 1));
        Twins.ofSome("shift(1, 2, 0, 0, 1)", CAST, x -> x.shift(1, 2, 0, 0, 1));
        Twins.ofSome("shift(0, 1, 0, 2, 3)", PLACE, x -> x.shift(0, 1, 0, 2, 3));
        Twins.ofSome("shift(0, 1, 2, 0, 1)", PLACE, x -> x.shift(0, 1, 2, 0, 1));
        Twins.ofSome("shift(0, -1, 0, 0, 2)", PLACE, x -> x.shift(0, -1, 0, 0, 2));
    }

    // ---- what is asked

    static void p03_ofChangesNothing() {
        Twins.asks("of", x -> x.of(0, 3) + x.of(9, 0) + x.of(0, 9));
    }

    static void p04_worthChangesNothing() {
        Twins.asks("worth", x -> x.worth(0, 60, 8) + x.worth(2, 1, 1) + x.worth(0, 61, 0) + x.worth(9, 0, 0));
    }

    static void p11_toldChangesNothing() {
        Twins.asks("told", x -> x.told(0) + x.told(1) + x.told(2) + x.told(3) + x.told(4));
    }

    static void p12_meanChangesNothing() {
        Twins.asks("mean", x -> x.mean(8, 0) + x.mean(8, 1) + x.mean(9, 0) + x.mean(0, 2));
    }

    static void p13_wiseChangesNothing() {
        Twins.asks("wise", x -> x.wise(0, 8) + x.wise(2, 1) + x.wise(9, 1) + x.wise(0, 0));
    }

    static void p14_priceChangesNothing() {
        Twins.asks("price", x -> x.price(8, 0) + x.price(8, 1) + x.price(9, 0));
    }

    static void p15_greedyChangesNothing() {
        Twins.asks("greedy", x -> x.greedy(8, 0) + x.greedy(8, 1) + x.greedy(9, 0));
    }

    static void p16_onlyChangesNothing() {
        Twins.asks("only", x -> x.only(63, 8, 0) + x.only(5, 8, 1) + x.only(64, 1, 0));
    }

    static void p17_chosenChangesNothing() {
        Twins.asks("chosen", x -> x.chosen(8) + x.chosen(0) + x.chosen(9));
    }

    static void p18_spentChangesNothing() {
        Twins.asks("spent", x -> x.spent(8, 0) + x.spent(8, 1) + x.spent(9, 0));
    }

    static void p19_thresholdChangesNothing() {
        Twins.asks("threshold", x -> x.threshold(8) + x.threshold(1) + x.threshold(0));
    }

    static void p21_planChangesNothing() {
        Twins.asks("plan", x -> x.plan(0) + x.plan(1) + x.plan(2));
    }

    static void p22_endsChangeNothing() {
        Twins.asks("ends", x -> x.ends(0) + x.ends(1) + x.ends(2));
    }

    static void p24_canChangesNothing() {
        Twins.asks("can", x -> x.can(0, 0) + x.can(1, 1) + x.can(9, 0) + x.can(0, 2));
    }

    static void p25_darkedChangesNothing() {
        Twins.asks("darked", x -> x.darked(0) + x.darked(1) + x.darked(2));
    }

    static void p27_lookedChangesNothing() {
        Twins.asks("looked", EclipsesKept::looked);
    }

    static void p28_judgeChangesNothing() {
        Twins.asks("judge", x -> x.judge(0, 1) + x.judge(1, 0) + x.judge(5, 0) + x.judge(6, 0) + x.judge(0, -1));
    }

    static void p32_traceChangesNothing() {
        Twins.asks("trace", x -> x.trace(0) + x.trace(19) + x.trace(-1));
    }

    static void p33_takenChangesNothing() {
        Twins.asks("taken", x -> x.taken(0, 3) + x.taken(1, 1) + x.taken(9, 0) + x.taken(0, 7));
    }

    static void p34_countChangesNothing() {
        Twins.asks("count", x -> x.count(0) + x.count(6) + x.count(7));
    }

    static void p37_readChangesNothing() {
        Twins.asks("read", x -> x.read(0, 1) + x.read(0, 9) + x.read(5, 0) + x.read(6, 0));
    }

    static void p31_anActChangesTheTraceAlone() {
        EclipsesKept x = Twins.some();
        x.act(0, 2, 7);
        Twins.acts("act(0, 2, 7), and then none", 0, y -> {
            y.act(0, 2, 7);
            return y.act(-1, 0, 0);
        });
    }
}
