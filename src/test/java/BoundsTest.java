/** Promises 25 to 28: the bound, the least end, the critical works. */
public final class BoundsTest {
    public static void main(String[] args) {
        bound();
        least();
        leastOfSeveral();
        leastWithoutTimes();
        leastOfMany();
        critical();
        criticalByMachineAndTool();
        criticalWithoutTimes();
        Check.close();
    }

    private static void bound() {
        Check.same("25: without works", new Manyshiftloom().bound(), 0);
        Manyshiftloom loom = new Manyshiftloom();
        loom.order(0, 1, 200, 0, 1);
        Check.same("25: an order without works", loom.bound(), 0);
        loom.work(0, 0, 3, -1);
        loom.work(0, 1, 4, -1);
        Check.same("25: an order's release and all its times", loom.bound(), 207);
        Manyshiftloom machine = new Manyshiftloom();
        machine.order(0, 1, 0, 0, 1);
        machine.work(0, 0, 2, -1);
        machine.work(0, 1, 9, -1);
        machine.work(0, 2, 3, -1);
        machine.order(0, 2, 3, 0, 1);
        machine.work(1, 1, 8, -1);
        machine.work(1, 3, 2, -1);
        // Machine 1: 9 and 16 in all; the earliest begin is 2, the least time behind is 3.
        Check.same("25: a machine, with what is ahead and behind", machine.bound(), 30);
        machine.order(0, 1, 1, 0, 1);
        machine.work(2, 1, 1, -1);
        Check.same("25: the least ahead and the least behind", machine.bound(), 27);
        Check.same("25: without times", Looms.withoutTimes().bound(), 1);
        Manyshiftloom chain = new Manyshiftloom();
        for (int order = 0; order < 3; order++) {
            chain.order(0, 1, 0, 0, 1);
            chain.work(order, order, 1, -1);
        }
        chain.order(0, 2, 6, 0, 1);
        for (int on = 0; on < 3; on++) {
            chain.work(3, on, 3 + on, -1);
        }
        Check.same("25: an order that is longer than each machine", chain.bound(), 30);
        chain.drop(3);
        Check.same("25: without it", chain.bound(), 1);
        Manyshiftloom twice = new Manyshiftloom();
        twice.order(0, 1, 5, 0, 1);
        twice.work(0, 0, 2, -1);
        twice.work(0, 1, 3, -1);
        twice.work(0, 0, 4, -1);
        Check.same("25: an order that comes twice", twice.bound(), 14);
    }

    private static void least() {
        Manyshiftloom loom = Looms.crossed();
        Check.same("26: end at first", loom.end(), 9);
        Check.same("26: the least", loom.least(), 7);
        Check.same("26: the first such row", Looms.row(loom), "1010");
        Check.same("26: it is the present one", loom.end(), 7);
        Check.same("26: again", loom.least(), 7);
        loom.setting(1, 0, 1, 5);
        loom.rest(0, 1, 4);
        Check.same("26: with rest", loom.least(), 9);
        Check.same("26: without works", new Manyshiftloom().least(), 0);
    }

    private static void leastOfSeveral() {
        Manyshiftloom loom = Looms.alike(4);
        loom.move(0, 3);
        Check.same("26: all rows end alike", loom.least(), 4);
        Check.same("26: the first of them", Looms.row(loom), "0123");
        loom.rest(0, 2, 5);
        loom.setAmount(1, 2);
        // 2 times ahead of the rest: order 1 alone, or two others.
        Check.same("26: fills the gap", loom.least(), 8);
        Check.same("26: the first that fills it", Looms.row(loom), "0213");
    }

    private static void leastWithoutTimes() {
        Manyshiftloom loom = Looms.crossed();
        loom.move(0, 3);
        loom.rest(0, 0, 2000);
        Check.same("26: no plan has times", loom.least(), -1);
        Check.same("26: nothing is different", Looms.row(loom), "0110");
        Manyshiftloom some = new Manyshiftloom();
        some.order(0, 1, 0, 0, 1);
        some.work(0, 0, 5, -1);
        some.order(0, 1, 0, 0, 1);
        some.work(1, 0, 2, -1);
        some.order(0, 1, 0, 0, 1);
        some.work(2, 0, 3, -1);
        some.rest(0, 5, 1995);
        Check.same("26: the first row has no times", some.move(0, 1), false);
        Check.same("26: but another one has", some.least(), 2000);
        Check.same("26: that row", Looms.row(some), "012");
        Manyshiftloom gap = Looms.gap();
        Check.same("26: the row 01 has no times", gap.hasTimes(), false);
        Check.same("26: the row 10 has", gap.least(), 2000);
        Check.same("26: it is the present one", Looms.row(gap), "10");
    }

    private static void leastOfMany() {
        Manyshiftloom eight = Looms.alike(8);
        for (int order = 0; order < 8; order++) {
            eight.setAmount(order, 1 + order % 3);
        }
        Check.same("26: 8 works", eight.least(), 15);
        eight.work(0, 1, 1, -1);
        Check.raisesState("26: 9 works", eight::least);
    }

    private static void critical() {
        Manyshiftloom loom = Looms.two();
        Check.same("27: two", loom.critical(), 2);
        Check.same("28: the first one", loom.criticalAt(0), 0);
        Check.same("28: the last one", loom.criticalAt(1), 10);
        Check.raisesIndex("28: place 2", () -> loom.criticalAt(2));
        Check.raisesIndex("28: place -1", () -> loom.criticalAt(-1));
        Check.same("27: without works", new Manyshiftloom().critical(), 0);
        Check.raisesIndex("28: without works", () -> new Manyshiftloom().criticalAt(0));
        criticalWithGaps();
        Manyshiftloom ends = new Manyshiftloom();
        ends.order(0, 1, 0, 0, 1);
        ends.work(0, 0, 2, -1);
        ends.order(0, 1, 0, 0, 1);
        ends.work(1, 1, 2, -1);
        ends.move(1, 0);
        Check.same("27: of several the least place", ends.critical(), 1);
        Check.same("28: in the row", ends.criticalAt(0), 10);
        ends.rest(1, 0, 1);
        Check.same("28: it begins behind a rest", ends.criticalAt(0), 10);
        Check.same("27: none is ahead of it", ends.critical(), 1);
    }

    /** Works that stand ahead, but end too early to be critical. */
    private static void criticalWithGaps() {
        Manyshiftloom loom = new Manyshiftloom();
        loom.order(0, 1, 0, 0, 1);
        loom.work(0, 0, 2, -1);
        loom.order(1, 1, 5, 0, 1);
        loom.work(1, 1, 1, 2);
        loom.order(2, 1, 20, 0, 1);
        loom.work(2, 0, 2, 2);
        Check.same("27: machine and tool are free before", loom.critical(), 1);
        Check.same("28: the last one alone", loom.criticalAt(0), 20);
        loom.setting(0, 0, 2, 18);
        Check.same("27: the setting ends as it begins", loom.critical(), 2);
        Check.same("28: by the setting", loom.criticalAt(0), 0);
        loom.setting(0, 0, 2, 17);
        Check.same("27: the setting ends before", loom.critical(), 1);
        loom.setAmount(1, 9);
        loom.rest(1, 5, 11);
        Check.same("27: the tool ends as it begins", loom.critical(), 2);
        Check.same("28: by the tool", loom.criticalAt(0), 10);
    }

    /** The order comes ahead of the machine, the machine ahead of the tool. */
    private static void criticalByMachineAndTool() {
        Manyshiftloom loom = new Manyshiftloom();
        loom.order(0, 1, 0, 0, 1);
        loom.work(0, 0, 4, -1);
        loom.order(1, 1, 0, 0, 1);
        loom.work(1, 1, 3, -1);
        loom.work(1, 0, 2, 1);
        loom.order(2, 1, 0, 0, 1);
        loom.work(2, 2, 1, 1);
        loom.setting(0, 0, 1, 5);
        Check.same("27: machine with the setting, then the tool", loom.critical(), 3);
        Check.same("28: by the machine", loom.criticalAt(0), 0);
        Check.same("28: work 1 of order 1", loom.criticalAt(1), 11);
        Check.same("28: by the tool", loom.criticalAt(2), 20);
        loom.setting(0, 0, 1, 0);
        loom.setAmount(0, 1);
        Check.same("28: begins as the machine's ends", loom.criticalAt(0), 0);
        loom.rest(1, 0, 1);
        Check.same("27: both end at 4", loom.critical(), 3);
        Check.same("28: the work ahead in the order is first", loom.criticalAt(0), 10);
        Manyshiftloom both = new Manyshiftloom();
        both.order(0, 1, 0, 0, 1);
        both.work(0, 0, 4, -1);
        both.order(0, 1, 0, 0, 1);
        both.work(1, 1, 4, 0);
        both.order(0, 1, 0, 0, 1);
        both.work(2, 0, 1, 0);
        Check.same("28: the machine ahead of the tool", both.criticalAt(0), 0);
    }

    private static void criticalWithoutTimes() {
        Manyshiftloom none = Looms.withoutTimes();
        Check.raisesState("27: no times", none::critical);
        Check.raisesState("28: no times", () -> none.criticalAt(0));
        Check.raisesState("28: the times first", () -> none.criticalAt(9));
    }
}
