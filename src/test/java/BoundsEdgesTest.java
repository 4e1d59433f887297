import java.util.function.Supplier;

/** Promises 25 to 28 at their edges: each sentence of the document that names one has a test of its own. */
public final class BoundsEdgesTest {
    private static final Supplier<Manyshiftloom> RICH = Looms::rich;
    private static final Supplier<Manyshiftloom> NONE = Looms::withoutTimes;
    private static final Supplier<Manyshiftloom> NEW = Manyshiftloom::new;

    public static void main(String[] args) {
        bound();
        boundOfOrder();
        boundOfMachine();
        boundOfEachMachine();
        leastOfMoreThan8();
        leastOfNone();
        leastWithoutTimes();
        leastOfSeveral();
        leastOfRowsThatShare();
        leastOfRowsThatDoNot();
        leastAgain();
        leastAtTheLastTime();
        critical();
        criticalChain();
        criticalOfTheLastPlaces();
        criticalOfSeveral();
        criticalAt();
        Check.close();
    }

    /** Four orders with four works each, all on machine 0, of the most time. */
    private static Manyshiftloom longest(int release) {
        Manyshiftloom loom = new Manyshiftloom();
        for (int order = 0; order < 4; order++) {
            loom.order(0, 9, release, 0, 1);
            for (int count = 0; count < 4; count++) {
                loom.work(order, 0, 9, -1);
            }
        }
        return loom;
    }

    private static void bound() {
        Edge.answers("25: 0 without orders", new Manyshiftloom(), 0, Manyshiftloom::bound);
        Manyshiftloom bare = new Manyshiftloom();
        bare.order(0, 9, 200, 500, 9);
        Check.same("25: 0 without works, though released later", bare.bound(), 0);
        bare.order(0, 1, 0, 0, 1);
        bare.work(1, 0, 1, -1);
        Check.same("25: an order without works does not count", bare.bound(), 1);
        Manyshiftloom order = new Manyshiftloom();
        order.order(0, 9, 200, 0, 1);
        for (int machine = 0; machine < 4; machine++) {
            order.work(0, machine, 9, -1);
        }
        Check.same("25: the longest order", order.bound(), 200 + 4 * 81);
        Check.same("25: the longest machine", longest(200).bound(), 200 + 16 * 81);
        Edge.answers("25: without times", Looms.withoutTimes(), 1, Manyshiftloom::bound);
        Edge.answers("25: rests, settings and workers do not count", Looms.latest(), 1, Manyshiftloom::bound);
    }

    /** "for each order with works its release and the times of all its works": no machine is as long as order 0. */
    private static void boundOfOrder() {
        Manyshiftloom loom = new Manyshiftloom();
        loom.order(0, 1, 6, 0, 1);
        loom.work(0, 0, 3, -1);
        loom.work(0, 1, 4, -1);
        loom.order(0, 1, 0, 0, 1);
        loom.work(1, 0, 1, -1);
        loom.order(0, 1, 0, 0, 1);
        loom.work(2, 1, 1, -1);
        Check.same("25: an order that is longer than each machine", loom.bound(), 13);
        Manyshiftloom one = new Manyshiftloom();
        one.order(0, 1, 6, 0, 1);
        one.work(0, 0, 3, -1);
        Check.same("25: an order of one work", one.bound(), 9);
        one.order(0, 1, 0, 0, 1);
        one.work(1, 0, 1, -1);
        Check.same("25: it is longer than its machine", one.bound(), 9);
    }

    /** "the sum of the times of its works, and the least time [...] ahead, and the least sum [...] behind". */
    private static void boundOfMachine() {
        Manyshiftloom loom = new Manyshiftloom();
        loom.order(0, 1, 7, 0, 1);
        loom.work(0, 1, 2, -1);
        loom.work(0, 0, 6, -1);
        loom.work(0, 2, 4, -1);
        loom.order(0, 1, 8, 0, 1);
        loom.work(1, 0, 7, -1);
        loom.work(1, 3, 3, -1);
        // Machine 0: 13; ahead 9 and 8; behind 4 and 3.
        Check.same("25: the least ahead and the least behind of another order", loom.bound(), 13 + 8 + 3);
        loom.work(1, 3, 1, -1);
        Check.same("25: alike behind", loom.bound(), 13 + 8 + 4);
        loom.order(0, 1, 9, 0, 1);
        loom.work(2, 0, 1, -1);
        Check.same("25: a last work has none behind", loom.bound(), 14 + 8);
        loom.order(0, 1, 0, 0, 1);
        loom.work(3, 0, 1, -1);
        Check.same("25: a first work has none ahead", loom.bound(), 19);
    }

    private static void boundOfEachMachine() {
        for (int machine = 0; machine < 4; machine++) {
            Manyshiftloom loom = new Manyshiftloom();
            loom.order(0, 1, 100, 0, 1);
            loom.work(0, machine, 6, -1);
            loom.work(0, (machine + 1) % 4, 9, -1);
            loom.order(0, 1, 102, 0, 1);
            loom.work(1, machine, 7, -1);
            loom.work(1, (machine + 2) % 4, 8, -1);
            Check.same("25: the machine " + machine, loom.bound(), 13 + 100 + 8);
        }
    }

    private static Manyshiftloom nine() {
        Manyshiftloom loom = Looms.alike(8);
        loom.work(7, 1, 1, -1);
        return loom;
    }

    private static void leastOfMoreThan8() {
        Edge.refuses("26: 9 works", BoundsEdgesTest::nine, Edge.STATE, Manyshiftloom::least);
        Edge.refuses("26: 16 works", Looms::full, Edge.STATE, Manyshiftloom::least);
        Edge.answers("26: 8 works of 8 orders", Looms.alike(8), 8, Manyshiftloom::least);
        Manyshiftloom two = Looms.bare(2);
        for (int count = 0; count < 4; count++) {
            two.work(0, count % 2, 1, -1);
            two.work(1, 1 - count % 2, 1, -1);
        }
        Check.same("26: 8 works of 2 orders", two.least(), 36);
        Check.same("26: in turns", Looms.row(two), "01010101");
    }

    private static void leastOfNone() {
        Edge.answers("26: 0 without orders", new Manyshiftloom(), 0, Manyshiftloom::least);
        Edge.answers("26: 0 without works", Looms.bare(8), 0, Manyshiftloom::least);
        Edge.answers("26: one work", Looms.single(200, 0, 9), 209, Manyshiftloom::least);
    }

    /** "NONE, and nothing is different, if no plan has times". */
    private static void leastWithoutTimes() {
        Manyshiftloom loom = Looms.rich();
        loom.rest(0, 0, 2000);
        String before = Whole.told(loom);
        Check.same("26: no plan has times", loom.least(), -1);
        Check.same("26: nothing is different", Whole.told(loom), before);
        Manyshiftloom shift = Looms.withoutTimes();
        shift.workers(1, 1);
        Check.same("26: one shift has a worker", shift.least(), 9);
    }

    /** "of several the first one, compared as rows, place by place". */
    private static void leastOfSeveral() {
        Manyshiftloom loom = new Manyshiftloom();
        for (int order = 0; order < 4; order++) {
            loom.order(0, 1, 0, 0, 1);
            loom.work(order, order, 1, -1);
            loom.work(order, order, 1, -1);
        }
        Looms.read(loom, "33221100");
        Check.same("26: every row ends alike", loom.least(), 2);
        Check.same("26: the first row", Looms.row(loom), "00112233");
        loom.drop(3);
        loom.workers(0, 1);
        Looms.read(loom, "210210");
        Check.same("26: with one worker every row ends alike", loom.least(), 6);
        Check.same("26: the first row with one worker", Looms.row(loom), "001122");
    }

    /** Only the row 10 ends at 9: order 1 begins ahead of a rest, or behind it. */
    private static Manyshiftloom firstOrLate(int tool) {
        Manyshiftloom loom = new Manyshiftloom();
        loom.order(0, 1, 0, 0, 1);
        loom.work(0, 0, 5, tool);
        loom.order(0, 1, 0, 0, 1);
        loom.work(1, 1, 4, tool);
        loom.rest(1, 4, 1000);
        return loom;
    }

    /** Rows in which two works side by side share a worker, a tool, or their order. */
    private static void leastOfRowsThatShare() {
        Manyshiftloom workers = firstOrLate(-1);
        Check.same("26: both at once", workers.least(), 5);
        Check.same("26: the first row", Looms.row(workers), "01");
        for (int shift = 0; shift < 3; shift++) {
            workers.workers(shift, 1);
        }
        Check.same("26: one worker", workers.least(), 9);
        Check.same("26: who begins first counts", Looms.row(workers), "10");
        Manyshiftloom tool = firstOrLate(2);
        Check.same("26: one tool", tool.least(), 9);
        Check.same("26: which begins first counts", Looms.row(tool), "10");
        Manyshiftloom order = Looms.bare(1);
        for (int machine = 0; machine < 4; machine++) {
            order.work(0, machine, 9, machine % 3);
        }
        Check.same("26: one order through four machines", order.least(), 324);
        Manyshiftloom first = Looms.two();
        first.move(0, 2);
        first.least();
        Check.same("26: the first row, with two works of one order", Looms.row(first), "001");
    }

    /** Rows in which only two works that are not side by side, or not the first two, share something. */
    private static void leastOfRowsThatDoNot() {
        Manyshiftloom machine = Looms.single(3, 0, 4);
        machine.order(0, 1, 0, 0, 1);
        machine.work(1, 0, 4, -1);
        machine.work(0, 1, 1, -1);
        Check.same("26: the first two share a machine, the last two an order", machine.least(), 9);
        Check.same("26: the order that is released first", Looms.row(machine), "100");
        Manyshiftloom tool = new Manyshiftloom();
        tool.order(0, 1, 3, 0, 1);
        tool.work(0, 2, 1, 0);
        tool.order(0, 1, 1, 0, 1);
        tool.work(1, 0, 3, 0);
        Check.same("26: they share the tool 0 alone", tool.least(), 5);
        Check.same("26: the tool is free for the other one then", Looms.row(tool), "10");
        Manyshiftloom between = new Manyshiftloom();
        for (int order = 0; order < 3; order++) {
            between.order(0, 1, order == 0 ? 2 : 0, 0, 1);
            between.work(order, order == 1 ? 1 : 0, 3, -1);
        }
        Check.same("26: the first and the last of the row share a machine", between.least(), 6);
        Check.same("26: the first row of these", Looms.row(between), "120");
        Manyshiftloom last = Looms.single(0, 0, 1);
        for (int order = 1; order < 8; order++) {
            last.order(0, 1, 0, 0, 1);
        }
        last.work(7, 0, 1, -1);
        last.work(7, 1, 1, -1);
        Check.same("26: the greatest order first", last.least(), 2);
        Check.same("26: the row of that", Looms.row(last), "707");
    }

    private static void leastAgain() {
        Manyshiftloom loom = Looms.alike(3);
        for (int order = 0; order < 3; order++) {
            loom.setAmount(order, 9);
        }
        Check.same("26: of the longest", loom.least(), 27);
        for (int order = 0; order < 3; order++) {
            loom.setAmount(order, 1);
        }
        loom.rest(0, 3, 2000);
        Check.same("26: again, of the shortest", loom.least(), 3);
        loom.drop(0);
        loom.drop(0);
        loom.drop(0);
        Check.same("26: again, of none", loom.least(), 0);
    }

    private static void leastAtTheLastTime() {
        Edge.answers("26: it ends at 2000", Looms.latest(), 2000, Manyshiftloom::least);
        Manyshiftloom gap = Looms.gap();
        Check.same("26: only the row 10 ends by 2000", gap.least(), 2000);
        Check.same("26: that row", Looms.row(gap), "10");
        gap.setAmount(0, 2);
        Check.same("26: none ends by 2000", gap.least(), -1);
        Check.same("26: the row stays", Looms.row(gap), "01");
    }

    private static void critical() {
        Edge.refuses("27: no times", NONE, Edge.STATE, Manyshiftloom::critical);
        Edge.answers("27: without orders", new Manyshiftloom(), 0, Manyshiftloom::critical);
        Edge.answers("27: without works", Looms.bare(8), 0, Manyshiftloom::critical);
        Edge.answers("27: one work", Looms.single(0, 0, 1), 1, Manyshiftloom::critical);
        Edge.answers("27: one work that is released later", Looms.single(200, 0, 1), 1, Manyshiftloom::critical);
        Edge.answers("27: all of 16", longest(0), 16, Manyshiftloom::critical);
    }

    /** "if its begin is the end of [...]": one time more between them, and there is none ahead. */
    private static void criticalChain() {
        Manyshiftloom order = Looms.single(0, 0, 3);
        order.work(0, 1, 5, -1);
        Check.same("27: the work ahead in the order", order.critical(), 2);
        order.rest(1, 3, 4);
        Check.same("27: it begins one time later", order.critical(), 1);
        Manyshiftloom machine = Looms.single(0, 0, 3);
        machine.order(1, 1, 7, 0, 1);
        machine.work(1, 0, 5, -1);
        Check.same("27: the machine was free", machine.critical(), 1);
        machine.setting(0, 0, 1, 4);
        Check.same("27: the machine and the setting", machine.critical(), 2);
        machine.setting(0, 0, 1, 3);
        Check.same("27: the setting ends one time ahead", machine.critical(), 1);
        machine.setting(0, 1, 0, 4);
        Check.same("27: the setting the other way", machine.critical(), 1);
        Manyshiftloom tool = new Manyshiftloom();
        tool.order(0, 1, 0, 0, 1);
        tool.work(0, 0, 3, 2);
        tool.order(0, 1, 3, 0, 1);
        tool.work(1, 1, 5, 2);
        Check.same("27: the tool", tool.critical(), 2);
        tool.rest(1, 3, 4);
        Check.same("27: it begins one time behind the tool", tool.critical(), 1);
        Manyshiftloom none = new Manyshiftloom();
        none.order(0, 1, 0, 0, 1);
        none.work(0, 0, 3, -1);
        none.order(0, 1, 3, 0, 1);
        none.work(1, 1, 5, -1);
        Check.same("27: NONE is no tool that is shared", none.critical(), 1);
    }

    /** Twelve works of one machine, done by then; behind them works that are critical, in each of the three ways. */
    private static void criticalOfTheLastPlaces() {
        for (int way = 0; way < 3; way++) {
            Manyshiftloom loom = Looms.bare(0);
            for (int order = 0; order < 3; order++) {
                loom.order(0, 1, 0, 0, 1);
                for (int work = 0; work < 4; work++) {
                    loom.work(order, 0, 1, -1);
                }
            }
            loom.order(0, 1, 200, 0, 1);
            loom.work(3, 1, 9, 2);
            loom.order(0, 1, 200, 0, 1);
            if (way == 0) {
                loom.work(3, 2, 5, -1);
            } else {
                loom.work(4, way, 5, way == 1 ? -1 : 2);
            }
            Check.same("27: the order, the machine, the tool: " + way, loom.critical(), 2);
            Check.same("28: the place 12", loom.criticalAt(0), 30);
            Check.same("28: the place 13", loom.criticalAt(1), way == 0 ? 31 : 40);
        }
    }

    /** "the last one is, of the works with the greatest end, the one at the least place of the row". */
    private static void criticalOfSeveral() {
        Manyshiftloom loom = new Manyshiftloom();
        for (int order = 0; order < 4; order++) {
            loom.order(0, 1, 0, 0, 1);
            loom.work(order, order, order == 0 ? 1 : 2, -1);
        }
        Check.same("28: the first of those that end last", loom.criticalAt(0), 10);
        Looms.read(loom, "3210");
        Check.same("28: in the row, not by the number", loom.criticalAt(0), 30);
        Check.same("27: it alone", loom.critical(), 1);
    }

    private static void criticalAt() {
        Edge.within("28: place", Looms::two, 0, 1, Edge.INDEX, (loom, n) -> loom.criticalAt(n));
        Edge.within("28: place, all of 16", () -> longest(0), 0, 15, Edge.INDEX, (loom, n) -> loom.criticalAt(n));
        Edge.refuses("28: without orders", NEW, Edge.INDEX, loom -> loom.criticalAt(0));
        Edge.refuses("28: without works", () -> Looms.bare(8), Edge.INDEX, loom -> loom.criticalAt(0));
        Edge.refuses("28: no times", NONE, Edge.STATE, loom -> loom.criticalAt(0));
        Edge.refuses("28: the times ahead of the place", NONE, Edge.STATE, loom -> loom.criticalAt(-1));
        Edge.refuses("28: the times ahead of the place", NONE, Edge.STATE, loom -> loom.criticalAt(9));
        Edge.refuses("28: a work that is not critical has no place", RICH, Edge.INDEX, loom -> loom.criticalAt(4));
        Manyshiftloom loom = Looms.bare(8);
        for (int count = 0; count < 4; count++) {
            loom.work(7, 0, 1, -1);
            Check.same("28: 10 times its order, plus its number", loom.criticalAt(count), 70 + count);
        }
        Manyshiftloom all = longest(0);
        for (int place = 0; place < 16; place++) {
            Check.same("28: the first one first", all.criticalAt(place), place / 4 * 10 + place % 4);
        }
    }
}
