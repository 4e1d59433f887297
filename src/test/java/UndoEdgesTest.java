import java.util.ArrayList;
import java.util.List;
import java.util.function.Supplier;

/** Promises 50 to 54, and the 512 calls, at their edges: each sentence that names one has a test of its own. */
public final class UndoEdgesTest {
    private static final Supplier<Manyshiftloom> RICH = Looms::rich;
    private static final Supplier<Manyshiftloom> NONE = Looms::withoutTimes;

    public static void main(String[] args) {
        nothingToUndo();
        theLatest12();
        olderThanThese();
        eachStep();
        twoSteps();
        questions();
        changesOfNothing();
        noChanges();
        refusedCalls();
        whatUndoLeaves();
        undoOfFullStores();
        checksum();
        checksumWraps();
        meanEnd();
        use();
        errors();
        errorsOfCriticalWorks();
        all512Calls();
        Check.close();
    }

    /** "NONE, and nothing is different, if there was none". */
    private static void nothingToUndo() {
        Edge.answers("50: a new object", new Manyshiftloom(), -1, Manyshiftloom::undo);
        Manyshiftloom loom = Looms.rich();
        for (int left = 11; left >= 0; left--) {
            Check.same("50: the number of changes that can still be undone", loom.undo(), left);
        }
        String before = Whole.told(loom);
        Check.same("50: none is left", loom.undo(), -1);
        Check.same("50: nothing is different", Whole.told(loom), before);
        Check.same("50: none is left, again", loom.undo(), -1);
        loom.noRest();
        Check.same("50: the only one", loom.undo(), 0);
        Check.same("50: there was none", loom.undo(), -1);
        Manyshiftloom all = new Manyshiftloom();
        all.order(0, 1, 0, 0, 1);
        Check.same("50: the first change of all", all.undo(), 0);
        Check.same("50: as at first", all.orders(), 0);
        all.order(3, 1, 0, 0, 1);
        Check.same("50: a change behind it", all.orderOf(0, 0), 3);
        Check.same("50: it can be undone, too", all.undo(), 0);
    }

    /** "The latest 12 changes can be undone, the latest one first". */
    private static void theLatest12() {
        for (int changes = 1; changes <= 30; changes++) {
            Manyshiftloom loom = new Manyshiftloom();
            for (int change = 1; change <= changes; change++) {
                loom.setRate(true, change);
            }
            int most = Math.min(changes, 12);
            for (int left = most - 1; left >= 0; left--) {
                Check.same("50: " + changes + " changes, left", loom.undo(), left);
            }
            Check.same("50: " + changes + " changes, none left", loom.undo(), -1);
            Check.same("50: " + changes + " changes, as it was then", loom.setRate(true, 0), Math.max(1, changes - 12));
        }
    }

    /** "one that is older than these cannot be undone any more, also when later ones were undone". */
    private static void olderThanThese() {
        for (int undone = 1; undone <= 12; undone++) {
            Manyshiftloom loom = new Manyshiftloom();
            for (int change = 1; change <= 13; change++) {
                loom.setRate(true, 10 * change);
            }
            for (int turn = 0; turn < undone; turn++) {
                loom.undo();
            }
            Check.same("50: the rate then", loom.setRate(true, 7), 10 * (13 - undone));
            int left = 12 - undone;
            Check.same("50: that change goes first", loom.undo(), left);
            while (left > 0) {
                left--;
                Check.same("50: then the others", loom.undo(), left);
            }
            Check.same("50: the first one of 13 cannot be undone", loom.undo(), -1);
            Check.same("50: it stands", loom.setRate(true, 0), 10);
        }
    }

    private static List<Edge.Call> changes() {
        List<Edge.Call> changes = new ArrayList<>();
        changes.add(loom -> loom.order(3, 9, 200, 500, 9));
        changes.add(loom -> loom.work(0, 3, 9, 2));
        changes.add(loom -> loom.drop(1));
        changes.add(loom -> loom.setAmount(0, 9));
        changes.add(loom -> loom.cut(0, 1));
        changes.add(loom -> loom.setting(0, 1, 0, 20));
        changes.add(loom -> loom.rest(0, 0, 5));
        changes.add(Manyshiftloom::noRest);
        changes.add(loom -> loom.workers(0, 0));
        changes.add(loom -> loom.plan(1));
        changes.add(Manyshiftloom::least);
        changes.add(loom -> loom.setRate(true, 1000));
        changes.add(loom -> loom.move(0, 3));
        changes.add(Manyshiftloom::improve);
        changes.add(loom -> loom.keep(2));
        changes.add(loom -> loom.take(0));
        changes.add(Manyshiftloom::read);
        return changes;
    }

    /** "all is then as it was ahead of it": each kind of change. */
    private static void eachStep() {
        List<Edge.Call> changes = changes();
        for (int number = 0; number < changes.size(); number++) {
            Edge.Call change = changes.get(number);
            Supplier<Manyshiftloom> before = () -> {
                Manyshiftloom loom = Looms.rich();
                loom.undo();
                loom.clearTape();
                Looms.tape(loom, "1200");
                return loom;
            };
            Supplier<Manyshiftloom> undone = () -> {
                Manyshiftloom loom = before.get();
                change.on(loom);
                loom.undo();
                return loom;
            };
            Check.same("50: change " + number, Whole.all(undone), Whole.all(before));
            Check.same("50: it is a change, " + number, changed(before.get(), change).undo(), 11);
        }
    }

    /** Each store is told otherwise twice, and comes back as it was ahead of both. */
    private static void twoSteps() {
        Edge.Call[][] pairs = {
            {Manyshiftloom::noRest, loom -> loom.rest(3, 100, 200)}, {loom -> loom.drop(0), loom -> loom.order(1, 1, 1, 1, 1)},
            {loom -> loom.keep(0), loom -> loom.plan(2)}, {loom -> loom.plan(2), loom -> loom.keep(1)},
            {loom -> loom.drop(2), loom -> loom.work(1, 3, 3, 1)}, {loom -> loom.cut(0, 1), loom -> loom.drop(0)},
            {loom -> loom.setRate(true, 7), loom -> loom.setRate(false, 7)},
            {loom -> loom.workers(0, 1), loom -> loom.workers(1, 1)},
        };
        for (int number = 0; number < pairs.length; number++) {
            Edge.Call[] pair = pairs[number];
            Manyshiftloom before = Looms.rich();
            before.undo();
            before.undo();
            String due = Whole.told(before) + Whole.told(changed(before, loom -> loom.take(1)));
            Manyshiftloom undone = Looms.rich();
            undone.undo();
            undone.undo();
            pair[0].on(undone);
            pair[1].on(undone);
            Check.same("50: two steps are left less, pair " + number, undone.undo(), 11);
            Check.same("50: two steps are left less, pair " + number, undone.undo(), 10);
            String got = Whole.told(undone) + Whole.told(changed(undone, loom -> loom.take(1)));
            Check.same("50: both are undone, pair " + number, got, due);
        }
    }

    /** "(A question.)": none of them changes anything. */
    private static void questions() {
        Supplier<Manyshiftloom> asked = () -> {
            Manyshiftloom loom = Looms.rich();
            Whole.told(loom);
            return loom;
        };
        Check.same("50: nothing is changed by questions", Whole.all(asked), Whole.all(RICH));
        Check.same("50: nor are the texts", Whole.texts(asked), Whole.texts(RICH));
        Supplier<Manyshiftloom> none = () -> {
            Manyshiftloom loom = Looms.gap();
            Whole.told(loom);
            return loom;
        };
        Check.same("50: nothing without times", Whole.all(none), Whole.all(Looms::gap));
    }

    private static Manyshiftloom changed(Manyshiftloom loom, Edge.Call change) {
        change.on(loom);
        return loom;
    }

    /** "(also if nothing is different)". */
    private static void changesOfNothing() {
        List<Edge.Call> changes = new ArrayList<>();
        changes.add(loom -> loom.setAmount(0, 2));
        changes.add(loom -> loom.setting(0, 0, 1, 0));
        changes.add(Manyshiftloom::noRest);
        changes.add(loom -> loom.workers(0, 4));
        changes.add(loom -> loom.plan(0));
        changes.add(Manyshiftloom::least);
        changes.add(loom -> loom.setRate(true, 1));
        changes.add(loom -> loom.setRate(false, 0));
        changes.add(loom -> loom.move(2, 2));
        changes.add(Manyshiftloom::improve);
        changes.add(loom -> loom.keep(0));
        changes.add(loom -> loom.take(0));
        changes.add(Manyshiftloom::read);
        for (int number = 0; number < changes.size(); number++) {
            Manyshiftloom loom = Looms.two();
            loom.keep(0);
            Looms.tape(loom, "001");
            String before = Whole.told(loom);
            changes.get(number).on(loom);
            Check.same("50: nothing is different by " + number, Whole.told(loom), before);
            Check.same("50: it counts, " + number, loom.undo(), 6);
        }
        Manyshiftloom none = Looms.withoutTimes();
        Check.same("50: no plan has times", none.least(), -1);
        Check.same("50: it counts", none.undo(), 5);
        Manyshiftloom one = Looms.alike(1);
        Check.same("50: there is no such move", one.improve(), -1);
        Check.same("50: it counts, too", one.undo(), 2);
    }

    /** Questions, append(), clearTape() and undo() are no changes. */
    private static void noChanges() {
        Manyshiftloom loom = Looms.two();
        Whole.told(loom);
        loom.rowAt(0);
        loom.write();
        loom.errorPosition();
        Check.same("50: questions", loom.undo(), 4);
        for (int turn = 0; turn < 20; turn++) {
            loom.append(0x20, 0, 0, 0, 0);
        }
        Check.same("50: append", loom.undo(), 3);
        loom.clearTape();
        Check.same("50: clearTape", loom.undo(), 2);
        Check.same("50: undo", loom.undo(), 1);
        Check.same("50: questions on what is left", Whole.told(loom).contains("orders 1 works 0"), true);
    }

    private static List<Edge.Call> refused() {
        List<Edge.Call> refused = new ArrayList<>();
        refused.add(loom -> loom.order(4, 1, 0, 0, 1));
        refused.add(loom -> loom.work(3, 0, 1, 0));
        refused.add(loom -> loom.work(0, 0, 0, 0));
        refused.add(loom -> loom.drop(3));
        refused.add(loom -> loom.setAmount(3, 1));
        refused.add(loom -> loom.setAmount(0, 0));
        refused.add(loom -> loom.cut(3, 1));
        refused.add(loom -> loom.cut(0, 2));
        refused.add(loom -> loom.setting(0, 1, 1, 1));
        refused.add(loom -> loom.rest(0, 1, 1));
        refused.add(loom -> loom.workers(3, 1));
        refused.add(loom -> loom.plan(-1));
        refused.add(loom -> loom.setRate(false, 1001));
        refused.add(loom -> loom.move(0, 4));
        refused.add(loom -> loom.keep(3));
        refused.add(loom -> loom.take(3));
        refused.add(loom -> loom.take(2));
        refused.add(loom -> loom.differ(2));
        refused.add(loom -> loom.without(3));
        refused.add(Manyshiftloom::read);
        return refused;
    }

    /** A change is a call "that throws no exception": none of these is one. */
    private static void refusedCalls() {
        for (Edge.Call call : refused()) {
            Manyshiftloom loom = Looms.rich();
            boolean isThrown = false;
            try {
                call.on(loom);
            } catch (RuntimeException thrown) {
                isThrown = true;
            }
            Check.same("50: it is refused", isThrown, true);
            loom.undo();
            Supplier<Manyshiftloom> undone = () -> Edge.tried(Looms.rich(), Manyshiftloom::undo);
            Check.same("50: the one ahead of it is undone", Whole.told(loom), Whole.told(undone.get()));
        }
        Manyshiftloom more = Looms.alike(5);
        more.work(0, 1, 1, -1);
        more.work(1, 1, 1, -1);
        more.work(2, 1, 1, -1);
        more.work(3, 1, 1, -1);
        Check.raisesState("50: 9 works", more::least);
        Check.same("50: least that is refused", more.undo(), 11);
        Manyshiftloom none = Looms.withoutTimes();
        Check.raisesState("50: no times", none::improve);
        Check.same("50: improve that is refused", none.undo(), 4);
    }

    /** "but the tape, its error position, what is written, and what can be undone". */
    private static void whatUndoLeaves() {
        Manyshiftloom loom = Looms.rich();
        for (int left = 11; left >= 0; left--) {
            loom.undo();
            Check.same("50: the error position", loom.errorPosition(), 5);
            Check.same("50: what is written", (int) loom.writtenAt(2), '2');
        }
        Check.same("50: the tape", loom.clearTape(), 4);
        Manyshiftloom read = Looms.two();
        Looms.tape(read, "100");
        read.read();
        read.undo();
        Check.same("50: the tape that was read is empty", read.clearTape(), 0);
        Manyshiftloom cleared = Looms.two();
        Looms.tape(cleared, "100");
        cleared.clearTape();
        cleared.undo();
        Check.same("50: the tape that was emptied, too", cleared.clearTape(), 0);
    }

    private static void undoOfFullStores() {
        Manyshiftloom full = Looms.full();
        full.drop(0);
        full.undo();
        Check.raisesState("50: 8 orders again", () -> full.order(0, 1, 0, 0, 1));
        Check.raisesState("50: 16 works again", () -> full.work(0, 0, 1, -1));
        Manyshiftloom rests = Looms.tenRests();
        rests.noRest();
        rests.undo();
        Check.raisesState("50: 10 rests again", () -> rests.rest(0, 0, 1));
        rests.undo();
        Check.same("50: 9 rests", rests.noRest(), 9);
        Manyshiftloom two = Looms.two();
        two.keep(0);
        two.undo();
        Check.raisesElement("50: nothing is kept again", () -> two.take(0));
    }

    private static void checksum() {
        Edge.answers("51: 17 without orders", new Manyshiftloom(), 17, Manyshiftloom::checksum);
        Edge.answers("51: 17 without works", Looms.bare(8), 17, Manyshiftloom::checksum);
        Edge.answers("51: one place", Looms.latest(), 17 * 31 + 1999, Manyshiftloom::checksum);
        Edge.answers("51: without times no begins", Looms.withoutTimes(), 17 * 31, Manyshiftloom::checksum);
        Edge.answers("51: without times, also those that had one", Looms.gap(), 17 * 31 * 31 + 1,
                Manyshiftloom::checksum);
    }

    /** "it wraps": as a long, the sum stands far above all of int. */
    private static void checksumWraps() {
        Manyshiftloom loom = Looms.full();
        loom.rest(0, 0, 1900);
        long sum = 17;
        int[] placed = new int[8];
        for (int place = 0; place < 16; place++) {
            int order = loom.rowAt(place);
            sum = sum * 31 + order + loom.begin(order, placed[order]);
            placed[order]++;
            sum = sum % (1L << 32);
        }
        Check.same("51: it wraps", loom.checksum(), (int) sum);
        int wrapped = 17;
        for (int place = 0; place < 6; place++) {
            wrapped = wrapped * 31 + place + place;
        }
        Check.same("51: six places stand above int", 17L * 31 * 31 * 31 * 31 * 31 * 31 > Integer.MAX_VALUE, true);
        Edge.answers("51: six places", Looms.alike(6), wrapped, Manyshiftloom::checksum);
        Check.same("51: below 0", Looms.alike(6).checksum() < 0 || Looms.alike(7).checksum() < 0
                || Looms.alike(8).checksum() < 0, true);
    }

    private static void meanEnd() {
        Edge.refuses("52: no times", NONE, Edge.STATE, Manyshiftloom::meanEnd);
        Edge.answers("52: 0.0 without orders", new Manyshiftloom(), 0.0, Manyshiftloom::meanEnd);
        Edge.answers("52: all end at 0", Looms.bare(8), 0.0, Manyshiftloom::meanEnd);
        Edge.answers("52: the greatest", Looms.latest(), 2000.0, Manyshiftloom::meanEnd);
        Edge.answers("52: converted ahead of the division", Looms.alike(2), 1.5, Manyshiftloom::meanEnd);
        Manyshiftloom three = Looms.alike(2);
        three.order(0, 1, 1, 0, 1);
        Check.same("52: an order without works counts with its release", three.meanEnd(), 4.0 / 3.0);
    }

    private static void use() {
        Edge.within("53: machine: 0 to 3", RICH, 0, 3, Edge.ARGUMENT, (loom, n) -> loom.use(n));
        Edge.refuses("53: no times", NONE, Edge.STATE, loom -> loom.use(0));
        Edge.refuses("53: the machine ahead of the times", NONE, Edge.ARGUMENT, loom -> loom.use(4));
        Edge.refuses("53: the machine ahead of the times", NONE, Edge.ARGUMENT, loom -> loom.use(-1));
        Edge.answers("53: 0.0f if the end is 0", new Manyshiftloom(), 0.0f, loom -> loom.use(0));
        Edge.answers("53: 0.0f without works", Looms.bare(8), 0.0f, loom -> loom.use(3));
        Edge.answers("53: 0.0f without works on it", Looms.two(), 0.0f, loom -> loom.use(3));
        Edge.answers("53: all of the time", Looms.alike(8), 1.0f, loom -> loom.use(0));
        Edge.answers("53: the least share", Looms.latest(), 1.0f / 2000.0f, loom -> loom.use(0));
        Edge.answers("53: converted to float ahead of the division", Looms.two(), 4.0f / 11.0f, loom -> loom.use(1));
    }

    private static void errors() {
        Edge.answers("54: without orders", new Manyshiftloom(), 0, Manyshiftloom::errors);
        Edge.answers("54: without works", Looms.bare(8), 0, Manyshiftloom::errors);
        Edge.answers("54: without times", Looms.withoutTimes(), 0, Manyshiftloom::errors);
        Edge.answers("54: the last place has no times", Looms.gap(), 0, Manyshiftloom::errors);
        Edge.answers("54: it ends at 2000", Looms.latest(), 0, Manyshiftloom::errors);
        Edge.answers("54: 10 rests", Looms.tenRests(), 0, Manyshiftloom::errors);
        for (int orders = 1; orders <= 8; orders++) {
            Edge.answers("54: orders on a machine: " + orders, Looms.alike(orders), 0, Manyshiftloom::errors);
        }
        Manyshiftloom heavy = new Manyshiftloom();
        for (int order = 0; order < 6; order++) {
            heavy.order(0, 9, 0, 0, 9);
            heavy.work(order, 2, 9, -1);
            heavy.work(order, 3, 9, -1);
        }
        Check.same("54: six of the longest and the heaviest", heavy.errors(), 0);
        Manyshiftloom full = Looms.full();
        Check.same("54: 16 works", full.errors(), 0);
        for (int workers = 4; workers >= 0; workers--) {
            for (int shift = 0; shift < 3; shift++) {
                full.workers(shift, workers);
                Check.same("54: " + workers + " workers", full.errors(), 0);
            }
        }
    }

    /** "critical works but the first that do not begin as section 5 tells": in each of its three ways they do. */
    private static void errorsOfCriticalWorks() {
        for (int tool = 0; tool < 3; tool++) {
            Manyshiftloom loom = new Manyshiftloom();
            for (int order = 0; order < 3; order++) {
                loom.order(order, 1, 0, 0, 1);
                loom.work(order, order, 3, tool);
            }
            Check.same("54: critical by the tool " + tool, loom.critical(), 3);
            Check.same("54: each begins as its tool is free", loom.errors(), 0);
        }
        Manyshiftloom machine = Looms.alike(1);
        machine.order(1, 1, 0, 0, 1);
        machine.work(1, 0, 3, -1);
        machine.setting(0, 0, 1, 4);
        Check.same("54: critical by the machine and the setting", machine.critical(), 2);
        Check.same("54: it begins behind the setting", machine.errors(), 0);
        Manyshiftloom order = Looms.single(3, 0, 2);
        order.work(0, 1, 2, 0);
        order.work(0, 1, 2, -1);
        Check.same("54: critical by the order", order.critical(), 3);
        Check.same("54: each begins as the one ahead ends", order.errors(), 0);
    }

    /** "An object is used for at most 512 calls": the last of them answers as the first one. */
    private static void all512Calls() {
        Manyshiftloom loom = Looms.two();
        int calls = 5;
        while (calls < 511) {
            loom.setRate(true, calls);
            calls++;
        }
        Check.same("0: the 512th call", loom.setRate(true, 0), 510);
        Manyshiftloom asked = Looms.crossed();
        for (int call = 6; call < 511; call++) {
            Check.same("0: the call " + call, asked.end(), 9);
        }
        Check.same("0: the 512th call", asked.least(), 7);
        Manyshiftloom texts = Looms.two();
        for (int call = 5; call < 509; call += 3) {
            texts.append(0x30300a31, 0x20, 0, 0, 0);
            Check.same("0: read", texts.read(), true);
            Check.same("0: write", texts.write(), 3);
        }
        Check.same("0: the 512th call", (int) texts.writtenAt(2), '1');
    }
}
