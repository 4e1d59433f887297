import java.util.function.Supplier;

/** Promises 1 to 11 at their edges: each sentence of the document that names one has a test of its own. */
public final class OrdersEdgesTest {
    private static final Supplier<Manyshiftloom> RICH = Looms::rich;
    private static final Supplier<Manyshiftloom> FULL = Looms::full;
    private static final Supplier<Manyshiftloom> NEW = Manyshiftloom::new;

    public static void main(String[] args) {
        withoutOrders();
        nothingTold();
        nothingKeptOrWritten();
        order();
        orderWhenThereAre8();
        work();
        workWhenItIsFull();
        drop();
        dropRenumbers();
        setAmount();
        cut();
        cutWhenItIsFull();
        orderOf();
        workOf();
        counts();
        setting();
        settingAtFirst();
        Check.close();
    }

    /** "Creates a loom without orders": every question and every call that bears it. */
    private static void withoutOrders() {
        Manyshiftloom loom = new Manyshiftloom();
        Check.same("1: orders", loom.orders(), 0);
        Check.same("1: works", loom.works(), 0);
        Check.same("1: hasTimes", loom.hasTimes(), true);
        Check.same("1: end", loom.end(), 0);
        Check.same("1: bound", loom.bound(), 0);
        Check.same("1: critical", loom.critical(), 0);
        Check.same("1: cost", loom.cost(), 0);
        Check.same("1: late", loom.late(), 0);
        Check.same("1: checksum", loom.checksum(), 17);
        Check.same("1: meanEnd", loom.meanEnd(), 0.0);
        Check.same("1: errors", loom.errors(), 0);
        for (int machine = 0; machine < 4; machine++) {
            Check.same("1: load", loom.load(machine), 0);
            Check.same("1: weighted", loom.weighted(machine), 0);
            Check.same("1: lateness", loom.lateness(machine), 0);
            Check.same("1: fewestLate", loom.fewestLate(machine), 0);
            Check.same("1: use", loom.use(machine), 0.0f);
            Check.same("1: two", loom.two(machine, 3 - machine), 0);
            for (int time = 0; time <= 2000; time += 500) {
                Check.same("1: workAt", loom.workAt(machine, time), -1);
                Check.same("1: busy", loom.busy(time), 0);
            }
        }
        for (int number = 0; number < 6; number++) {
            int rule = number;
            Edge.answers("1: plan by rule " + rule, new Manyshiftloom(), true, fresh -> fresh.plan(rule));
        }
        Edge.answers("1: least", new Manyshiftloom(), 0, Manyshiftloom::least);
        Edge.answers("1: improve", new Manyshiftloom(), -1, Manyshiftloom::improve);
        Edge.answers("1: keep", new Manyshiftloom(), 0, fresh -> fresh.keep(0));
        Edge.answers("1: read", new Manyshiftloom(), true, Manyshiftloom::read);
        Edge.answers("1: write", new Manyshiftloom(), 0, Manyshiftloom::write);
        Edge.answers("1: rest", new Manyshiftloom(), 0, fresh -> fresh.rest(0, 0, 2000));
    }

    /** "nothing is told". */
    private static void nothingTold() {
        Manyshiftloom loom = new Manyshiftloom();
        for (int time = 0; time <= 2000; time++) {
            for (int machine = 0; machine < 4; machine++) {
                Check.note(!loom.rests(machine, time), "1: machine " + machine + " rests at " + time);
            }
        }
        Check.same("1: rests told", new Manyshiftloom().noRest(), 0);
        Check.same("1: nothing to undo", new Manyshiftloom().undo(), -1);
        Check.same("1: tape", new Manyshiftloom().clearTape(), 0);
        Check.same("1: error position", new Manyshiftloom().errorPosition(), -1);
        Edge.refuses("1: an order", NEW, Edge.INDEX, fresh -> fresh.orderOf(0, 0));
        Edge.refuses("1: a work", NEW, Edge.INDEX, fresh -> fresh.workOf(0, 0, 0));
        Edge.refuses("1: a place", NEW, Edge.INDEX, fresh -> fresh.rowAt(0));
    }

    /** "nothing is [...] kept or written". */
    private static void nothingKeptOrWritten() {
        for (int number = 0; number < 3; number++) {
            int slot = number;
            Edge.refuses("1: nothing to take", NEW, Edge.ELEMENT, loom -> loom.take(slot));
            Edge.refuses("1: nothing to differ from", NEW, Edge.ELEMENT, loom -> loom.differ(slot));
        }
        Edge.refuses("1: nothing written", NEW, Edge.INDEX, loom -> loom.writtenAt(0));
    }

    private static void order() {
        Edge.within("2: kind: 0 to 3", RICH, 0, 3, Edge.ARGUMENT, (loom, n) -> loom.order(n, 1, 0, 0, 1));
        Edge.within("2: amount: 1 to 9", RICH, 1, 9, Edge.ARGUMENT, (loom, n) -> loom.order(0, n, 0, 0, 1));
        Edge.within("2: release: 0 to 200", RICH, 0, 200, Edge.ARGUMENT, (loom, n) -> loom.order(0, 1, n, 0, 1));
        Edge.within("2: due: 0 to 500", RICH, 0, 500, Edge.ARGUMENT, (loom, n) -> loom.order(0, 1, 0, n, 1));
        Edge.within("2: weight: 1 to 9", RICH, 1, 9, Edge.ARGUMENT, (loom, n) -> loom.order(0, 1, 0, 0, n));
        Manyshiftloom loom = new Manyshiftloom();
        Check.same("2: the first number", loom.order(0, 1, 0, 0, 1), 0);
        Check.same("2: the second number", loom.order(3, 9, 200, 500, 9), 1);
        int[][] due = {{0, 1, 0, 0, 1, 0, 0}, {3, 9, 200, 500, 9, 0, 0}};
        for (int what = 0; what < 7; what++) {
            Check.same("2: the least numbers stand, " + what, loom.orderOf(0, what), due[0][what]);
            Check.same("2: the greatest numbers stand, " + what, loom.orderOf(1, what), due[1][what]);
        }
    }

    private static void orderWhenThereAre8() {
        Edge.answers("2: the eighth one", Looms.bare(7), 7, loom -> loom.order(0, 1, 0, 0, 1));
        Edge.refuses("2: if there are 8", () -> Looms.bare(8), Edge.STATE, loom -> loom.order(0, 1, 0, 0, 1));
        Edge.refuses("2: if there are 8, with works", FULL, Edge.STATE, loom -> loom.order(3, 9, 200, 500, 9));
        Edge.refuses("2: kind first", FULL, Edge.ARGUMENT, loom -> loom.order(4, 1, 0, 0, 1));
        Edge.refuses("2: amount first", FULL, Edge.ARGUMENT, loom -> loom.order(0, 0, 0, 0, 1));
        Edge.refuses("2: release first", FULL, Edge.ARGUMENT, loom -> loom.order(0, 1, 201, 0, 1));
        Edge.refuses("2: due first", FULL, Edge.ARGUMENT, loom -> loom.order(0, 1, 0, 501, 1));
        Edge.refuses("2: weight first", FULL, Edge.ARGUMENT, loom -> loom.order(0, 1, 0, 0, 10));
        Manyshiftloom loom = Looms.full();
        loom.drop(0);
        Check.same("2: one went, so one can come", loom.order(0, 1, 0, 0, 1), 7);
        Check.same("2: it is without works", loom.orderOf(7, 5), 0);
    }

    private static void work() {
        Edge.within("3: order", RICH, 0, 2, Edge.INDEX, (loom, n) -> loom.work(n, 0, 1, -1));
        Edge.within("3: machine: 0 to 3", RICH, 0, 3, Edge.ARGUMENT, (loom, n) -> loom.work(0, n, 1, -1));
        Edge.within("3: time: 1 to 9", RICH, 1, 9, Edge.ARGUMENT, (loom, n) -> loom.work(0, 0, n, -1));
        Edge.within("3: tool: 0 to 2, or NONE", RICH, -1, 2, Edge.ARGUMENT, (loom, n) -> loom.work(0, 0, 1, n));
        Edge.refuses("3: no order at all", NEW, Edge.INDEX, loom -> loom.work(0, 0, 1, -1));
        Edge.refuses("3: the order ahead of the machine", RICH, Edge.INDEX, loom -> loom.work(3, 4, 1, -1));
        Edge.refuses("3: the order ahead of the time", RICH, Edge.INDEX, loom -> loom.work(-1, 0, 0, -1));
        Edge.refuses("3: the order ahead of the tool", RICH, Edge.INDEX, loom -> loom.work(3, 0, 1, 3));
        Edge.refuses("3: the order ahead of 16", FULL, Edge.INDEX, loom -> loom.work(8, 0, 1, -1));
        Edge.refuses("3: the machine ahead of 16", FULL, Edge.ARGUMENT, loom -> loom.work(0, -1, 1, -1));
        Edge.refuses("3: the time ahead of 16", FULL, Edge.ARGUMENT, loom -> loom.work(0, 0, 10, -1));
        Edge.refuses("3: the tool ahead of 16", FULL, Edge.ARGUMENT, loom -> loom.work(0, 0, 1, -2));
        Manyshiftloom loom = Looms.bare(1);
        Check.same("3: the first one", loom.work(0, 0, 1, -1), 1);
        Check.same("3: the second one", loom.work(0, 3, 9, 2), 2);
        int[][] due = {{0, 1, -1, 9}, {3, 9, 2, 81}};
        for (int what = 0; what < 4; what++) {
            Check.same("3: the least numbers stand, " + what, loom.workOf(0, 0, what), due[0][what]);
            Check.same("3: the greatest numbers stand, " + what, loom.workOf(0, 1, what), due[1][what]);
        }
    }

    /** Order 0 has 4 works, order 1 none. */
    private static Manyshiftloom four() {
        Manyshiftloom loom = Looms.bare(2);
        for (int count = 1; count <= 4; count++) {
            Check.same("3: how many works the order has then", loom.work(0, count - 1, count, -1), count);
        }
        return loom;
    }

    private static void workWhenItIsFull() {
        Edge.refuses("3: if the order has 4", OrdersEdgesTest::four, Edge.STATE, loom -> loom.work(0, 0, 1, -1));
        Edge.refuses("3: the machine ahead of 4", OrdersEdgesTest::four, Edge.ARGUMENT, loom -> loom.work(0, 4, 1, 0));
        Edge.answers("3: another order has room", four(), 1, loom -> loom.work(1, 0, 1, -1));
        Edge.refuses("3: if there are 16", FULL, Edge.STATE, loom -> loom.work(7, 0, 1, -1));
        Manyshiftloom loom = Looms.full();
        loom.drop(7);
        loom.order(0, 1, 0, 0, 1);
        loom.work(7, 0, 1, -1);
        Check.same("3: 15", loom.works(), 15);
        Check.same("3: the sixteenth one", loom.work(0, 0, 1, -1), 3);
        Check.same("3: 16", loom.works(), 16);
        Check.raisesState("3: the seventeenth one", () -> loom.work(1, 0, 1, -1));
    }

    private static void drop() {
        Edge.within("4: order", RICH, 0, 2, Edge.INDEX, (loom, n) -> loom.drop(n));
        Edge.refuses("4: no order at all", NEW, Edge.INDEX, loom -> loom.drop(0));
        Manyshiftloom loom = Looms.full();
        for (int left = 7; left >= 0; left--) {
            Check.same("4: how many are left", loom.drop(left / 2), left);
            Check.same("4: their works", loom.works(), 2 * left);
        }
        Check.raisesIndex("4: none is left", () -> loom.drop(0));
    }

    /** "When an order goes, those behind it get a number that is less by 1." */
    private static void dropRenumbers() {
        for (int goes = 0; goes < 8; goes++) {
            Manyshiftloom loom = new Manyshiftloom();
            for (int order = 0; order < 8; order++) {
                loom.order(order % 4, 1 + order, 10 * order, 20 * order, 1 + order);
                loom.work(order, order % 4, 1 + order, order % 4 - 1);
                loom.work(order, 3 - order % 4, 9 - order, -1);
            }
            loom.drop(goes);
            for (int order = 0; order < 7; order++) {
                int was = order < goes ? order : order + 1;
                Check.same("4: its release", loom.orderOf(order, 2), 10 * was);
                Check.same("4: its day due", loom.orderOf(order, 3), 20 * was);
                Check.same("4: its first work's tool", loom.workOf(order, 0, 2), was % 4 - 1);
                Check.same("4: its last work's time", loom.workOf(order, 1, 1), 9 - was);
            }
            Check.same("4: the first row", Looms.row(loom), "00112233445566");
            Check.raisesIndex("4: the last number is free", () -> loom.orderOf(7, 0));
        }
    }

    private static void setAmount() {
        Edge.within("5: order", RICH, 0, 2, Edge.INDEX, (loom, n) -> loom.setAmount(n, 1));
        Edge.within("5: amount: 1 to 9", RICH, 1, 9, Edge.ARGUMENT, (loom, n) -> loom.setAmount(0, n));
        Edge.refuses("5: no order at all", NEW, Edge.INDEX, loom -> loom.setAmount(0, 1));
        Edge.refuses("5: the order ahead of the amount", RICH, Edge.INDEX, loom -> loom.setAmount(3, 10));
        Edge.refuses("5: the order ahead of the amount", RICH, Edge.INDEX, loom -> loom.setAmount(-1, 0));
        Manyshiftloom loom = Looms.full();
        Check.same("5: the amount before", loom.setAmount(7, 9), 1);
        Check.same("5: the greatest amount", loom.setAmount(7, 1), 9);
        Check.same("5: the least amount", loom.orderOf(7, 1), 1);
    }

    private static void cut() {
        Edge.within("6: order", () -> Looms.bare(2), 0, 1, Edge.INDEX, (loom, n) -> loom.cut(n, 1));
        Edge.within("6: from 1 to one less than it has", () -> Looms.bare(2), 1, 8, Edge.ARGUMENT,
                (loom, n) -> loom.cut(1, n));
        Edge.within("6: of two pieces one", RICH, 1, 1, Edge.ARGUMENT, (loom, n) -> loom.cut(0, n));
        for (int amount = -1; amount <= 9; amount++) {
            int pieces = amount;
            Edge.refuses("6: of one piece none", Looms::crossed, Edge.ARGUMENT, loom -> loom.cut(1, pieces));
        }
        Edge.refuses("6: no order at all", NEW, Edge.INDEX, loom -> loom.cut(0, 1));
        Edge.refuses("6: the order ahead of the amount", RICH, Edge.INDEX, loom -> loom.cut(3, 0));
        Manyshiftloom loom = Looms.bare(1);
        Check.same("6: the number of the new order", loom.cut(0, 8), 1);
        Check.same("6: one piece is left", loom.orderOf(0, 1), 1);
        Check.same("6: the lot", loom.orderOf(1, 1), 8);
        Check.same("6: the least lot", loom.cut(1, 1), 2);
        Check.same("6: the rest of it", loom.orderOf(1, 1), 7);
        Check.same("6: that lot", loom.orderOf(2, 1), 1);
    }

    /** Orders 0 to 4 have 3, 4, 4, 2 and 2 works, of 2 pieces each: 15 works in all. */
    private static Manyshiftloom fifteen() {
        Manyshiftloom loom = new Manyshiftloom();
        int[] counts = {3, 4, 4, 2, 2};
        for (int order = 0; order < counts.length; order++) {
            loom.order(0, 2, 0, 0, 1);
            for (int count = 0; count < counts[order]; count++) {
                loom.work(order, count, 1, -1);
            }
        }
        return loom;
    }

    private static void cutWhenItIsFull() {
        Edge.refuses("6: if there are 8 orders", () -> Looms.bare(8), Edge.STATE, loom -> loom.cut(0, 1));
        Edge.answers("6: the eighth one", Looms.bare(7), 7, loom -> loom.cut(0, 1));
        Edge.refuses("6: the order ahead of 8", () -> Looms.bare(8), Edge.INDEX, loom -> loom.cut(8, 1));
        Edge.refuses("6: the amount ahead of 8", () -> Looms.bare(8), Edge.ARGUMENT, loom -> loom.cut(0, 9));
        Edge.refuses("6: more than 16 works", OrdersEdgesTest::fifteen, Edge.STATE, loom -> loom.cut(3, 1));
        Edge.refuses("6: many more", OrdersEdgesTest::fifteen, Edge.STATE, loom -> loom.cut(1, 1));
        Edge.refuses("6: the amount ahead of 16", OrdersEdgesTest::fifteen, Edge.ARGUMENT, loom -> loom.cut(3, 2));
        Manyshiftloom loom = fifteen();
        loom.drop(1);
        Check.same("6: 11", loom.works(), 11);
        loom.cut(0, 1);
        Check.same("6: 14", loom.works(), 14);
        Check.same("6: up to 16 works", loom.cut(2, 1), 5);
        Check.same("6: 16", loom.works(), 16);
        Check.raisesState("6: not one more", () -> loom.cut(3, 1));
        loom.order(0, 2, 0, 0, 1);
        Check.same("6: an order without works can be cut then", loom.cut(6, 1), 7);
    }

    private static void orderOf() {
        Edge.within("7: order", RICH, 0, 2, Edge.INDEX, (loom, n) -> loom.orderOf(n, 0));
        Edge.within("7: what: 0 to 6", RICH, 0, 6, Edge.ARGUMENT, (loom, n) -> loom.orderOf(0, n));
        Edge.refuses("7: the order ahead of what", RICH, Edge.INDEX, loom -> loom.orderOf(3, 7));
        Edge.refuses("7: the order ahead of what", NEW, Edge.INDEX, loom -> loom.orderOf(0, -1));
        Manyshiftloom loom = Looms.bare(2);
        for (int count = 0; count < 4; count++) {
            loom.work(1, count, 9, -1);
        }
        Check.same("7: no works", loom.orderOf(0, 5), 0);
        Check.same("7: no time", loom.orderOf(0, 6), 0);
        Check.same("7: the most works", loom.orderOf(1, 5), 4);
        Check.same("7: the most time", loom.orderOf(1, 6), 4 * 81);
    }

    private static void workOf() {
        Edge.within("8: order", Looms::crossed, 0, 1, Edge.INDEX, (loom, n) -> loom.workOf(n, 0, 0));
        Edge.within("8: work", Looms::crossed, 0, 1, Edge.INDEX, (loom, n) -> loom.workOf(1, n, 0));
        Edge.within("8: what: 0 to 3", RICH, 0, 3, Edge.ARGUMENT, (loom, n) -> loom.workOf(0, 1, n));
        Edge.refuses("8: an order without works", () -> Looms.bare(2), Edge.INDEX, loom -> loom.workOf(1, 0, 0));
        Edge.refuses("8: a work of the next order", Looms::two, Edge.INDEX, loom -> loom.workOf(1, 1, 0));
        Edge.refuses("8: the order ahead of what", RICH, Edge.INDEX, loom -> loom.workOf(3, 0, 4));
        Edge.refuses("8: the work ahead of what", RICH, Edge.INDEX, loom -> loom.workOf(0, 2, -1));
        Manyshiftloom loom = four();
        Check.same("8: the last work", loom.workOf(0, 3, 3), 36);
        Check.same("8: its tool or NONE", loom.workOf(0, 3, 2), Manyshiftloom.NONE);
    }

    private static void counts() {
        Check.same("9: none", new Manyshiftloom().orders(), 0);
        Check.same("9: the most", Looms.full().orders(), 8);
        Manyshiftloom loom = Looms.full();
        Check.raisesState("9: a ninth one", () -> loom.order(0, 1, 0, 0, 1));
        Check.same("9: still the most", loom.orders(), 8);
        Check.same("10: none", new Manyshiftloom().works(), 0);
        Check.same("10: orders without works", Looms.bare(8).works(), 0);
        Check.same("10: the most", loom.works(), 16);
        Check.raisesState("10: a seventeenth one", () -> loom.work(0, 0, 1, -1));
        Check.same("10: still the most", loom.works(), 16);
    }

    private static void setting() {
        Edge.within("11: machine: 0 to 3", RICH, 0, 3, Edge.ARGUMENT, (loom, n) -> loom.setting(n, 0, 1, 1));
        Edge.within("11: from: 0 to 3", RICH, 0, 2, Edge.ARGUMENT, (loom, n) -> loom.setting(0, n, 3, 1));
        Edge.within("11: to: 0 to 3", RICH, 0, 2, Edge.ARGUMENT, (loom, n) -> loom.setting(0, 3, n, 1));
        Edge.within("11: time: 0 to 20", RICH, 0, 20, Edge.ARGUMENT, (loom, n) -> loom.setting(0, 0, 1, n));
        Edge.refuses("11: from 4", RICH, Edge.ARGUMENT, loom -> loom.setting(0, 4, 3, 1));
        Edge.refuses("11: to 4", RICH, Edge.ARGUMENT, loom -> loom.setting(0, 3, 4, 1));
        for (int number = 0; number < 4; number++) {
            int kind = number;
            Edge.refuses("11: both kinds are the same", RICH, Edge.ARGUMENT, loom -> loom.setting(kind, kind, kind, 0));
        }
        Manyshiftloom loom = Looms.two();
        Check.same("11: the greatest time", loom.setting(0, 0, 1, 20), 0);
        Check.same("11: it counts", loom.begin(1, 0), 26);
        Check.same("11: back to none", loom.setting(0, 0, 1, 0), 20);
        Check.same("11: none counts", loom.begin(1, 0), 6);
    }

    /** "(0 to 20, at first 0); between two works of one kind it takes none, and ahead of the first work [...] none". */
    private static void settingAtFirst() {
        Manyshiftloom loom = new Manyshiftloom();
        for (int cell = 0; cell < 64; cell++) {
            if (cell / 4 % 4 != cell % 4) {
                Check.same("11: at first 0", loom.setting(cell / 16, cell / 4 % 4, cell % 4, 20), 0);
            }
        }
        int[] kinds = {3, 3, 0, 0};
        int[] begins = {0, 1, 22, 23};
        for (int order = 0; order < 4; order++) {
            loom.order(kinds[order], 1, 0, 0, 1);
            loom.work(order, 2, 1, -1);
        }
        for (int order = 0; order < 4; order++) {
            Check.same("11: the setting ahead of order " + order, loom.begin(order, 0), begins[order]);
        }
    }
}
