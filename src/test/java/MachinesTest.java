/** Promises 29 to 34: one machine, two machines. */
public final class MachinesTest {
    public static void main(String[] args) {
        oneMachine();
        ratios();
        fewest();
        worksTogether();
        wrongNumbers();
        two();
        twoOfSeveral();
        twoWrong();
        Check.close();
    }

    /** Orders of time, day due and weight on machine 2. */
    private static Manyshiftloom orders(int[]... orders) {
        Manyshiftloom loom = new Manyshiftloom();
        for (int order = 0; order < orders.length; order++) {
            loom.order(0, 1, 0, orders[order][1], orders[order][2]);
            loom.work(order, 2, orders[order][0], -1);
        }
        return loom;
    }

    private static String one(Manyshiftloom loom, int way, int count) {
        StringBuilder row = new StringBuilder();
        for (int place = 0; place < count; place++) {
            row.append(loom.oneAt(2, way, place));
        }
        Check.raisesIndex("32: behind the last", () -> loom.oneAt(2, way, count));
        return row.toString();
    }

    private static void oneMachine() {
        Manyshiftloom loom = orders(new int[] {4, 10, 2}, new int[] {2, 3, 3}, new int[] {5, 5, 1});
        Check.same("29: weighted", loom.weighted(2), 3 * 2 + 2 * 6 + 11);
        Check.same("32: by ratios", one(loom, 0, 3), "102");
        Check.same("30: lateness", loom.lateness(2), 2);
        Check.same("32: by days due", one(loom, 1, 3), "120");
        Check.same("31: fewest late", loom.fewestLate(2), 1);
        Check.same("32: those that are late last", one(loom, 2, 3), "102");
        Check.same("29: no order", loom.weighted(0), 0);
        Check.same("30: no order", loom.lateness(0), 0);
        Check.same("31: no order", loom.fewestLate(0), 0);
        Check.raisesIndex("32: no order", () -> loom.oneAt(0, 0, 0));
        Check.raisesIndex("32: -1", () -> loom.oneAt(2, 0, -1));
        Manyshiftloom early = orders(new int[] {4, 100, 2}, new int[] {2, 50, 3});
        Check.same("30: none is late", early.lateness(2), -48);
        Check.same("31: none is late", early.fewestLate(2), 0);
        Manyshiftloom just = orders(new int[] {4, 4, 2});
        Check.same("30: just in time", just.lateness(2), 0);
        Check.same("31: just in time", just.fewestLate(2), 0);
    }

    private static void ratios() {
        Manyshiftloom loom = orders(new int[] {6, 0, 2}, new int[] {3, 0, 1}, new int[] {9, 0, 4},
                new int[] {3, 0, 1}, new int[] {9, 0, 3});
        Check.same("32: of the same ratio the least order", one(loom, 0, 5), "20134");
        Check.same("29: sum", loom.weighted(2), 4 * 9 + 2 * 15 + 18 + 21 + 3 * 30);
        Check.same("32: of the same day the least order", one(loom, 1, 5), "01234");
    }

    private static void fewest() {
        Manyshiftloom loom = orders(new int[] {3, 6, 1}, new int[] {3, 5, 1}, new int[] {3, 7, 1},
                new int[] {1, 8, 1}, new int[] {4, 9, 1});
        // By days 1 0 2 3 4; at order 2 the greatest of three alike goes, at order 4 the longest.
        Check.same("31: two are late", loom.fewestLate(2), 2);
        Check.same("32: in the order in which they went", one(loom, 2, 5), "10324");
        Manyshiftloom all = orders(new int[] {3, 0, 1}, new int[] {2, 0, 1}, new int[] {1, 0, 1});
        Check.same("31: all are late", all.fewestLate(2), 3);
        Check.same("32: all are late", one(all, 2, 3), "012");
        Manyshiftloom longer = orders(new int[] {2, 3, 1}, new int[] {9, 10, 1}, new int[] {2, 12, 1},
                new int[] {2, 12, 1});
        Check.same("31: the longest goes", longer.fewestLate(2), 1);
        Check.same("32: the others move up", one(longer, 2, 4), "0231");
        Manyshiftloom between = orders(new int[] {2, 2, 1}, new int[] {5, 8, 1}, new int[] {2, 8, 1},
                new int[] {3, 9, 1});
        Check.same("31: the longest stands between", between.fewestLate(2), 1);
        Check.same("32: those behind it move up", one(between, 2, 4), "0231");
        Manyshiftloom ahead = orders(new int[] {5, 6, 1}, new int[] {2, 6, 1}, new int[] {1, 7, 1});
        Check.same("31: the longest stands ahead", ahead.fewestLate(2), 1);
        Check.same("32: the longest stands ahead", one(ahead, 2, 3), "120");
        Manyshiftloom alike = orders(new int[] {3, 5, 1}, new int[] {3, 3, 1});
        Check.same("32: of several the greatest order, not the last one", one(alike, 2, 2), "01");
    }

    private static void worksTogether() {
        Manyshiftloom loom = new Manyshiftloom();
        loom.order(0, 2, 100, 7, 3);
        loom.work(0, 0, 1, 0);
        loom.work(0, 1, 9, -1);
        loom.work(0, 0, 3, -1);
        loom.order(1, 1, 0, 9, 4);
        loom.work(1, 0, 5, 0);
        loom.setting(0, 1, 0, 20);
        loom.rest(0, 0, 50);
        loom.workers(0, 0);
        Check.same("29: all its works together, nothing else counts", loom.weighted(0), 4 * 5 + 3 * 13);
        Check.same("30: all its works together", loom.lateness(0), 4);
        Check.same("31: all its works together", loom.fewestLate(0), 1);
        Check.same("32: all its works together", loom.oneAt(0, 2, 0), 1);
    }

    private static void wrongNumbers() {
        Manyshiftloom loom = orders(new int[] {4, 10, 2});
        for (int machine : new int[] {-1, 4}) {
            Check.raisesArgument("29: machine", () -> loom.weighted(machine));
            Check.raisesArgument("30: machine", () -> loom.lateness(machine));
            Check.raisesArgument("31: machine", () -> loom.fewestLate(machine));
            Check.raisesArgument("32: machine", () -> loom.oneAt(machine, 0, 0));
        }
        Check.raisesArgument("32: way -1", () -> loom.oneAt(2, -1, 0));
        Check.raisesArgument("32: way 3, and no place", () -> loom.oneAt(2, 3, 9));
        Manyshiftloom none = Looms.withoutTimes();
        Check.same("29: without times", none.weighted(0), 1);
        Check.same("30: without times", none.lateness(0), 1);
        Check.same("31: without times", none.fewestLate(0), 1);
    }

    /** Orders of a time on machine 3 and one on machine 1; 0 is without a work. */
    private static Manyshiftloom pairs(int[]... orders) {
        Manyshiftloom loom = new Manyshiftloom();
        for (int order = 0; order < orders.length; order++) {
            loom.order(0, 1, 9, 0, 1);
            if (orders[order][1] > 0) {
                loom.work(order, 1, orders[order][1], -1);
            }
            if (orders[order][0] > 0) {
                loom.work(order, 3, orders[order][0], -1);
            }
        }
        return loom;
    }

    private static String told(Manyshiftloom loom, int count) {
        StringBuilder row = new StringBuilder();
        for (int place = 0; place < count; place++) {
            row.append(loom.twoAt(3, 1, place));
        }
        Check.raisesIndex("34: behind the last", () -> loom.twoAt(3, 1, count));
        return row.toString();
    }

    private static void two() {
        Manyshiftloom loom = pairs(new int[] {5, 2}, new int[] {1, 6}, new int[] {9, 7}, new int[] {3, 8},
                new int[] {8, 4});
        Check.same("34: told order", told(loom, 5), "13240");
        Check.same("33: end", loom.two(3, 1), 28);
        loom.work(0, 0, 1, -1);
        loom.order(0, 1, 0, 0, 1);
        loom.work(5, 0, 9, -1);
        Check.same("34: others do not count", told(loom, 5), "13240");
        Check.same("33: no order", new Manyshiftloom().two(0, 1), 0);
        Check.same("33: none on them", loom.two(2, 0) > 0 ? loom.two(0, 2) : -1, 10);
        Check.raisesIndex("34: -1", () -> loom.twoAt(3, 1, -1));
        Check.raisesIndex("34: no order", () -> new Manyshiftloom().twoAt(0, 1, 0));
    }

    private static void twoOfSeveral() {
        Manyshiftloom loom = pairs(new int[] {4, 4}, new int[] {2, 3}, new int[] {2, 9}, new int[] {6, 4},
                new int[] {5, 0}, new int[] {0, 3});
        // Order 5 has 0 on the first one; order 0 is not less on it.
        Check.same("34: of several the least order", told(loom, 6), "512034");
        Check.same("33: end", loom.two(3, 1), 23);
        Check.same("34: as long on both is not less", told(pairs(new int[] {4, 4}, new int[] {5, 6}), 2), "10");
        Manyshiftloom whole = new Manyshiftloom();
        whole.order(0, 3, 0, 0, 1);
        whole.work(0, 3, 1, -1);
        whole.work(0, 1, 2, -1);
        whole.work(0, 3, 1, -1);
        Check.same("33: all its works together", whole.two(3, 1), 12);
        Check.same("33: only on the first one", pairs(new int[] {5, 0}).two(3, 1), 5);
        Check.same("33: only on the second one", pairs(new int[] {0, 5}).two(3, 1), 5);
    }

    private static void twoWrong() {
        Manyshiftloom loom = Looms.crossed();
        int[][] wrong = {{-1, 0}, {4, 0}, {0, -1}, {0, 4}, {2, 2}};
        for (int[] w : wrong) {
            Check.raisesArgument("33: machines", () -> loom.two(w[0], w[1]));
            Check.raisesArgument("34: machines", () -> loom.twoAt(w[0], w[1], 9));
        }
    }
}
