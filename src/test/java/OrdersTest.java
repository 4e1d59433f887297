/** Promises 1 to 11: a new object; orders, works, settings. */
public final class OrdersTest {
    public static void main(String[] args) {
        newObject();
        order();
        work();
        drop();
        setAmount();
        cut();
        orderOf();
        workOf();
        counts();
        setting();
        Check.close();
    }

    private static void newObject() {
        Manyshiftloom loom = new Manyshiftloom();
        Check.same("1: orders", loom.orders(), 0);
        Check.same("1: works", loom.works(), 0);
        Check.same("1: hasTimes", loom.hasTimes(), true);
        Check.same("1: end", loom.end(), 0);
        Check.same("1: tape", loom.clearTape(), 0);
        Check.same("1: error position", loom.errorPosition(), -1);
        Check.raisesIndex("1: nothing written", () -> loom.writtenAt(0));
        Check.same("1: no rest told", loom.noRest(), 0);
        Manyshiftloom other = new Manyshiftloom();
        Check.same("1: nothing to undo", other.undo(), -1);
        for (int slot = 0; slot < 3; slot++) {
            int at = slot;
            Check.raisesElement("1: nothing kept at " + slot, () -> loom.take(at));
            Check.same("1: workers", loom.workers(slot, 4), 4);
        }
        Check.same("1: rate for late ones", loom.setRate(true, 5), 1);
        Check.same("1: rate for early ones", loom.setRate(false, 5), 0);
        for (int cell = 0; cell < 64; cell++) {
            if (cell / 4 % 4 != cell % 4) {
                Check.same("1: setting", loom.setting(cell / 16, cell / 4 % 4, cell % 4, 20), 0);
            }
        }
        Check.same("NONE", Manyshiftloom.NONE, -1);
    }

    private static void order() {
        Manyshiftloom loom = new Manyshiftloom();
        Check.same("2: first", loom.order(0, 1, 0, 0, 1), 0);
        Check.same("2: second, greatest numbers", loom.order(3, 9, 200, 500, 9), 1);
        int[][] wrong = {
            {-1, 1, 0, 0, 1}, {4, 1, 0, 0, 1}, {0, 0, 0, 0, 1}, {0, 10, 0, 0, 1}, {0, 1, -1, 0, 1}, {0, 1, 201, 0, 1},
            {0, 1, 0, -1, 1}, {0, 1, 0, 501, 1}, {0, 1, 0, 0, 0}, {0, 1, 0, 0, 10},
            {Integer.MIN_VALUE, 1, 0, 0, 1}, {0, Integer.MAX_VALUE, 0, 0, 1},
        };
        for (int[] w : wrong) {
            Check.raisesArgument("2: number out of range", () -> loom.order(w[0], w[1], w[2], w[3], w[4]));
        }
        Check.same("2: nothing came of wrong calls", loom.orders(), 2);
        for (int number = 2; number < 8; number++) {
            Check.same("2: number", loom.order(1, 2, 3, 4, 5), number);
        }
        Check.raisesState("2: a ninth one", () -> loom.order(0, 1, 0, 0, 1));
        Check.raisesArgument("2: a wrong ninth one", () -> loom.order(4, 1, 0, 0, 1));
        Check.same("2: still 8", loom.orders(), 8);
        Manyshiftloom told = Looms.crossed();
        told.move(0, 3);
        told.order(0, 1, 0, 0, 1);
        Check.same("2: the first row comes back", Looms.row(told), "0011");
        Check.same("2: and its times", told.begin(1, 0), 3);
    }

    private static void work() {
        Manyshiftloom loom = new Manyshiftloom();
        Check.raisesIndex("3: no order", () -> loom.work(0, 0, 1, -1));
        loom.order(0, 1, 0, 0, 1);
        Check.same("3: first", loom.work(0, 0, 1, -1), 1);
        Check.same("3: greatest numbers", loom.work(0, 3, 9, 2), 2);
        Check.raisesIndex("3: order -1", () -> loom.work(-1, 0, 1, -1));
        Check.raisesIndex("3: no such order, wrong machine", () -> loom.work(1, 9, 1, -1));
        int[][] wrong = {{-1, 1, 0}, {4, 1, 0}, {0, 0, 0}, {0, 10, 0}, {0, 1, -2}, {0, 1, 3}};
        for (int[] w : wrong) {
            Check.raisesArgument("3: number out of range", () -> loom.work(0, w[0], w[1], w[2]));
        }
        Check.same("3: third", loom.work(0, 0, 1, 0), 3);
        Check.same("3: fourth", loom.work(0, 0, 1, 0), 4);
        Check.raisesState("3: a fifth one", () -> loom.work(0, 0, 1, -1));
        Check.raisesArgument("3: a wrong fifth one", () -> loom.work(0, 4, 1, -1));
        for (int order = 1; order < 4; order++) {
            loom.order(0, 1, 0, 0, 1);
            for (int count = 1; count <= 4; count++) {
                Check.same("3: count", loom.work(order, 0, 1, -1), count);
            }
        }
        loom.order(0, 1, 0, 0, 1);
        Check.raisesState("3: a seventeenth one", () -> loom.work(4, 0, 1, -1));
        Check.same("3: 16", loom.works(), 16);
        Manyshiftloom told = Looms.crossed();
        told.move(0, 3);
        told.work(0, 2, 1, -1);
        Check.same("3: the first row comes back", Looms.row(told), "00011");
    }

    private static void drop() {
        Manyshiftloom loom = Looms.two();
        Check.raisesIndex("4: order 2", () -> loom.drop(2));
        Check.raisesIndex("4: order -1", () -> loom.drop(-1));
        loom.order(2, 3, 4, 5, 6);
        loom.work(2, 3, 7, 1);
        loom.move(3, 0);
        Check.same("4: left", loom.drop(0), 2);
        Check.same("4: works", loom.works(), 2);
        Check.same("4: those behind it get a number less by 1", Looms.row(loom), "01");
        Check.same("4: order 1 is 0 now", loom.orderOf(0, 3), 5);
        Check.same("4: its work", loom.workOf(0, 0, 1), 5);
        Check.same("4: order 2 is 1 now", loom.orderOf(1, 0), 2);
        Check.same("4: its amount", loom.orderOf(1, 1), 3);
        Check.same("4: its work's machine", loom.workOf(1, 0, 0), 3);
        Check.same("4: its work's tool", loom.workOf(1, 0, 2), 1);
        Check.same("4: the last one goes", loom.drop(1), 1);
        Check.same("4: none left", loom.drop(0), 0);
        Check.raisesIndex("4: none there", () -> loom.drop(0));
        loom.order(0, 1, 0, 0, 1);
        Check.same("4: a new one has no works", loom.orderOf(0, 5), 0);
    }

    private static void setAmount() {
        Manyshiftloom loom = Looms.two();
        Check.raisesIndex("5: order 2", () -> loom.setAmount(2, 0));
        Check.raisesIndex("5: order -1", () -> loom.setAmount(-1, 1));
        Check.raisesArgument("5: amount 0", () -> loom.setAmount(0, 0));
        Check.raisesArgument("5: amount 10", () -> loom.setAmount(0, 10));
        loom.move(2, 0);
        Check.same("5: row", Looms.row(loom), "100");
        loom.keep(0);
        Check.same("5: the amount before", loom.setAmount(0, 9), 2);
        Check.same("5: the amount now", loom.setAmount(0, 1), 9);
        Check.same("5: the first row comes back", Looms.row(loom), "001");
        Check.same("5: the times follow", loom.begin(1, 0), 3);
        Check.same("5: kept plans stay", loom.take(0), 10);
        loom.setAmount(0, 1);
        Check.same("5: also when the number is the same", Looms.row(loom), "001");
    }

    private static void cut() {
        Manyshiftloom loom = new Manyshiftloom();
        loom.order(3, 9, 7, 70, 5);
        loom.work(0, 0, 2, 0);
        loom.work(0, 1, 3, -1);
        Check.raisesIndex("6: order 1", () -> loom.cut(1, 1));
        Check.raisesIndex("6: order -1", () -> loom.cut(-1, 1));
        Check.raisesArgument("6: amount 0", () -> loom.cut(0, 0));
        Check.raisesArgument("6: all of it", () -> loom.cut(0, 9));
        loom.keep(0);
        Check.same("6: number", loom.cut(0, 4), 1);
        Check.raisesElement("6: what was kept goes", () -> loom.take(0));
        int[] first = {3, 5, 7, 70, 5, 2, 25};
        int[] lot = {3, 4, 7, 70, 5, 2, 20};
        for (int what = 0; what < 7; what++) {
            Check.same("6: the order, " + what, loom.orderOf(0, what), first[what]);
            Check.same("6: the lot, " + what, loom.orderOf(1, what), lot[what]);
        }
        for (int what = 0; what < 3; what++) {
            Check.same("6: works alike", loom.workOf(1, 0, what), loom.workOf(0, 0, what));
            Check.same("6: works alike", loom.workOf(1, 1, what), loom.workOf(0, 1, what));
        }
        Check.same("6: row", Looms.row(loom), "0011");
        Check.same("6: times", loom.begin(1, 0), 17);
        Check.same("6: one less than it has", loom.cut(1, 3), 2);
        Check.same("6: one piece is left", loom.orderOf(1, 1), 1);
        Check.raisesArgument("6: one piece cannot be cut", () -> loom.cut(1, 1));
        Check.same("6: the fourth", loom.cut(0, 1), 3);
        Check.same("6: the fifth", loom.cut(0, 1), 4);
        Check.same("6: the sixth", loom.cut(0, 1), 5);
        Check.same("6: the seventh", loom.cut(2, 1), 6);
        loom.work(6, 0, 1, -1);
        Check.same("6: 15 works", loom.works(), 15);
        Check.raisesState("6: more than 16 works", () -> loom.cut(0, 1));
        Check.raisesArgument("6: the number comes first", () -> loom.cut(0, 2));
        loom.drop(6);
        Check.same("6: 16 works", loom.cut(0, 1) + loom.cut(2, 1), 13);
        loom.setAmount(0, 9);
        Check.raisesState("6: a ninth order", () -> loom.cut(0, 1));
        Manyshiftloom bare = new Manyshiftloom();
        bare.order(0, 2, 0, 0, 1);
        Check.same("6: an order without works", bare.cut(0, 1), 1);
        Manyshiftloom eight = new Manyshiftloom();
        for (int order = 0; order < 8; order++) {
            eight.order(0, 9, 0, 0, 1);
        }
        Check.raisesState("6: 8 orders without works", () -> eight.cut(0, 1));
    }

    private static void orderOf() {
        Manyshiftloom loom = new Manyshiftloom();
        loom.order(3, 4, 5, 6, 7);
        loom.work(0, 0, 2, -1);
        loom.work(0, 0, 3, -1);
        int[] due = {3, 4, 5, 6, 7, 2, 20};
        for (int what = 0; what < due.length; what++) {
            Check.same("7: " + what, loom.orderOf(0, what), due[what]);
        }
        Check.raisesIndex("7: order 1", () -> loom.orderOf(1, 9));
        Check.raisesIndex("7: order -1", () -> loom.orderOf(-1, 0));
        Check.raisesArgument("7: what -1", () -> loom.orderOf(0, -1));
        Check.raisesArgument("7: what 7", () -> loom.orderOf(0, 7));
    }

    private static void workOf() {
        Manyshiftloom loom = new Manyshiftloom();
        loom.order(0, 3, 0, 0, 1);
        loom.order(0, 2, 0, 0, 1);
        loom.work(1, 3, 7, -1);
        loom.work(1, 2, 9, 2);
        int[] first = {3, 7, -1, 14};
        int[] second = {2, 9, 2, 18};
        for (int what = 0; what < 4; what++) {
            Check.same("8: first, " + what, loom.workOf(1, 0, what), first[what]);
            Check.same("8: second, " + what, loom.workOf(1, 1, what), second[what]);
        }
        Check.raisesIndex("8: order 2", () -> loom.workOf(2, 0, 9));
        Check.raisesIndex("8: order -1", () -> loom.workOf(-1, 0, 0));
        Check.raisesIndex("8: work 2", () -> loom.workOf(1, 2, 9));
        Check.raisesIndex("8: work -1", () -> loom.workOf(1, -1, 0));
        Check.raisesIndex("8: an order without works", () -> loom.workOf(0, 0, 0));
        Check.raisesArgument("8: what -1", () -> loom.workOf(1, 0, -1));
        Check.raisesArgument("8: what 4", () -> loom.workOf(1, 0, 4));
    }

    private static void counts() {
        Manyshiftloom loom = Looms.two();
        Check.same("9: orders", loom.orders(), 2);
        Check.same("10: works", loom.works(), 3);
        loom.order(0, 1, 0, 0, 1);
        Check.same("9: one more", loom.orders(), 3);
        Check.same("10: without works", loom.works(), 3);
        loom.drop(0);
        Check.same("9: one less", loom.orders(), 2);
        Check.same("10: its works go with it", loom.works(), 1);
    }

    private static void setting() {
        Manyshiftloom loom = Looms.two();
        int[][] wrong = {{-1, 0, 1, 1}, {4, 0, 1, 1}, {0, -1, 1, 1}, {0, 4, 1, 1}, {0, 0, -1, 1}, {0, 0, 4, 1},
            {0, 0, 1, -1}, {0, 0, 1, 21}, {0, 2, 2, 1}};
        for (int[] w : wrong) {
            Check.raisesArgument("11: out of range", () -> loom.setting(w[0], w[1], w[2], w[3]));
        }
        Check.same("11: first", loom.setting(0, 0, 1, 20), 0);
        Check.same("11: begin behind the setting", loom.begin(1, 0), 26);
        Check.same("11: the time before", loom.setting(0, 0, 1, 4), 20);
        Check.same("11: told otherwise", loom.begin(1, 0), 10);
        Check.same("11: of another machine", loom.setting(1, 0, 1, 7), 0);
        Check.same("11: in the other direction", loom.setting(0, 1, 0, 3), 0);
        Check.same("11: neither counts", loom.begin(1, 0), 10);
        loom.move(2, 0);
        Check.same("11: the row stays, the direction counts", loom.begin(0, 0), 8);
        Check.same("11: greatest numbers", loom.setting(3, 3, 2, 20), 0);
        Check.same("11: greatest numbers once more", loom.setting(3, 3, 2, 0), 20);
    }
}
