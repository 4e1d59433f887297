import java.util.function.Supplier;

/** Promises 29 to 34 at their edges: each sentence of the document that names one has a test of its own. */
public final class MachinesEdgesTest {
    private static final Supplier<Manyshiftloom> RICH = Looms::rich;
    private static final Supplier<Manyshiftloom> NONE = Looms::withoutTimes;
    private static final Supplier<Manyshiftloom> NEW = Manyshiftloom::new;

    public static void main(String[] args) {
        weighted();
        lateness();
        fewestLate();
        fewestLateTies();
        oneAt();
        oneAtRows();
        whatDoesNotCount();
        two();
        twoAt();
        toldOrder();
        Check.close();
    }

    /** Orders on machine 1, each of a time, a day due and a weight. */
    private static Manyshiftloom orders(int... numbers) {
        Manyshiftloom loom = new Manyshiftloom();
        for (int order = 0; order < numbers.length / 3; order++) {
            loom.order(0, 1, 0, numbers[3 * order + 1], numbers[3 * order + 2]);
            loom.work(order, 1, numbers[3 * order], -1);
        }
        return loom;
    }

    /** Four orders whose four works are on machine 1, with the most time, each due at that day. */
    private static Manyshiftloom longest(int due) {
        Manyshiftloom loom = new Manyshiftloom();
        for (int order = 0; order < 4; order++) {
            loom.order(0, 9, 0, due, 9);
            for (int count = 0; count < 4; count++) {
                loom.work(order, 1, 9, -1);
            }
        }
        return loom;
    }

    private static String one(Manyshiftloom loom, int way, int count) {
        StringBuilder row = new StringBuilder();
        for (int place = 0; place < count; place++) {
            row.append(loom.oneAt(1, way, place));
        }
        return row.toString();
    }

    private static void weighted() {
        Edge.within("29: machine: 0 to 3", RICH, 0, 3, Edge.ARGUMENT, (loom, n) -> loom.weighted(n));
        Edge.answers("29: no order has works on it", Looms.two(), 0, loom -> loom.weighted(3));
        Edge.answers("29: without times", Looms.withoutTimes(), 1, loom -> loom.weighted(0));
        Edge.answers("29: the greatest sum", longest(0), 9 * 324 * (1 + 2 + 3 + 4), loom -> loom.weighted(1));
        Edge.answers("29: the least one", orders(1, 0, 1), 1, loom -> loom.weighted(1));
    }

    private static void lateness() {
        Edge.within("30: machine: 0 to 3", RICH, 0, 3, Edge.ARGUMENT, (loom, n) -> loom.lateness(n));
        Edge.answers("30: 0 if no order has works on it", Looms.two(), 0, loom -> loom.lateness(3));
        Edge.answers("30: 0 if no order has works", Looms.bare(8), 0, loom -> loom.lateness(0));
        Edge.answers("30: just at the day due", orders(5, 5, 1), 0, loom -> loom.lateness(1));
        Edge.answers("30: the least", orders(1, 500, 1), -499, loom -> loom.lateness(1));
        Edge.answers("30: the greatest", longest(0), 4 * 324, loom -> loom.lateness(1));
        Edge.answers("30: the greatest of those below 0", orders(1, 100, 1, 1, 50, 1), -49, loom -> loom.lateness(1));
        Edge.answers("30: without times", Looms.withoutTimes(), 1, loom -> loom.lateness(0));
    }

    private static void fewestLate() {
        Edge.within("31: machine: 0 to 3", RICH, 0, 3, Edge.ARGUMENT, (loom, n) -> loom.fewestLate(n));
        Edge.answers("31: no order has works on it", Looms.two(), 0, loom -> loom.fewestLate(3));
        Edge.answers("31: just at the day due", orders(5, 5, 1), 0, loom -> loom.fewestLate(1));
        Edge.answers("31: above it by 1", orders(6, 5, 1), 1, loom -> loom.fewestLate(1));
        Edge.answers("31: all four", longest(0), 4, loom -> loom.fewestLate(1));
        Edge.answers("31: one is just in time", longest(324), 3, loom -> loom.fewestLate(1));
        Manyshiftloom eight = new Manyshiftloom();
        for (int order = 0; order < 8; order++) {
            eight.order(0, 1, 0, 0, 1);
            eight.work(order, 1, 1, -1);
        }
        Check.same("31: all 8", eight.fewestLate(1), 8);
        Check.same("32: in the order in which they went", one(eight, 2, 8), "01234567");
        Edge.answers("31: without times", Looms.withoutTimes(), 1, loom -> loom.fewestLate(0));
    }

    /** "the longest one of the row goes (of several the greatest order)". */
    private static void fewestLateTies() {
        Check.same("32: of two alike the greatest order", one(orders(3, 4, 1, 3, 5, 1), 2, 2), "01");
        Check.same("32: though it came first", one(orders(3, 5, 1, 3, 4, 1), 2, 2), "01");
        Check.same("32: the longest, though it came first", one(orders(4, 4, 1, 3, 5, 1), 2, 2), "10");
        Check.same("32: the longest, though it is the last one", one(orders(3, 4, 1, 4, 5, 1), 2, 2), "01");
        Check.same("32: of two alike behind a shorter one", one(orders(1, 1, 1, 3, 6, 1, 3, 5, 1), 2, 3), "012");
        Check.same("32: of three alike the one between", one(orders(3, 3, 1, 2, 9, 1, 3, 6, 1, 3, 8, 1), 2, 4), "0213");
    }

    private static void oneAt() {
        Edge.within("32: machine: 0 to 3", NONE, 0, 0, Edge.ARGUMENT,
                (loom, n) -> loom.oneAt(n == 1 ? 4 : n, 0, 0));
        Edge.within("32: way: 0 to 2", RICH, 0, 2, Edge.ARGUMENT, (loom, n) -> loom.oneAt(0, n, 0));
        for (int number = 0; number < 3; number++) {
            int way = number;
            Edge.within("32: place, way " + way, Looms::crossed, 0, 1, Edge.INDEX, (loom, n) -> loom.oneAt(0, way, n));
            Edge.within("32: place of 8, way " + way, Looms::full, 0, 7, Edge.INDEX,
                    (loom, n) -> loom.oneAt(0, way, n));
            Edge.refuses("32: no order at all, way " + way, NEW, Edge.INDEX, loom -> loom.oneAt(3, way, 0));
            Edge.refuses("32: none on it, way " + way, Looms::two, Edge.INDEX, loom -> loom.oneAt(2, way, 0));
            Edge.refuses("32: the machine ahead of the place", RICH, Edge.ARGUMENT, loom -> loom.oneAt(4, way, -1));
        }
        Edge.refuses("32: the way ahead of the place", RICH, Edge.ARGUMENT, loom -> loom.oneAt(0, 3, 99));
        Edge.refuses("32: machine and way", NEW, Edge.ARGUMENT, loom -> loom.oneAt(-1, -1, 0));
        Edge.answers("32: the greatest machine", Looms.full(), 2, loom -> loom.oneAt(3, 0, 0));
    }

    private static void oneAtRows() {
        Check.same("32: by ratios, of several the least order", one(orders(4, 0, 2, 8, 0, 4, 2, 0, 1, 9, 0, 9), 0, 4),
                "3012");
        Check.same("32: ratios that differ by little", one(orders(9, 0, 8, 8, 0, 7, 9, 0, 9), 0, 3), "201");
        Check.same("32: by days due, of several the least order", one(orders(1, 5, 1, 1, 500, 1, 1, 5, 1, 1, 0, 1), 1, 4),
                "3021");
        Check.same("32: none goes", one(orders(1, 2, 1, 1, 1, 1), 2, 2), "10");
        Check.same("32: those that stay by days due", one(orders(1, 9, 1, 9, 5, 1, 1, 3, 1), 2, 3), "201");
    }

    /** "no settings, releases, tools, rests or workers count". */
    private static void whatDoesNotCount() {
        Manyshiftloom loom = new Manyshiftloom();
        loom.order(0, 1, 200, 9, 2);
        loom.work(0, 1, 4, 0);
        loom.work(0, 2, 1, 0);
        loom.order(1, 1, 100, 3, 1);
        loom.work(1, 1, 3, 0);
        loom.setting(1, 0, 1, 20);
        loom.setting(1, 1, 0, 20);
        loom.rest(1, 0, 2000);
        loom.workers(0, 0);
        Check.same("29: nothing else counts", loom.weighted(1), 2 * 4 + 7);
        Check.same("30: nothing else counts", loom.lateness(1), 0);
        Check.same("31: nothing else counts", loom.fewestLate(1), 0);
        Check.same("33: nothing else counts", loom.two(1, 2), 7);
    }

    private static void two() {
        Edge.within("33: first: 0 to 3", RICH, 0, 2, Edge.ARGUMENT, (loom, n) -> loom.two(n, 3));
        Edge.within("33: second: 0 to 3", RICH, 0, 2, Edge.ARGUMENT, (loom, n) -> loom.two(3, n));
        for (int number = 0; number < 4; number++) {
            int machine = number;
            Edge.refuses("33: both are the same", RICH, Edge.ARGUMENT, loom -> loom.two(machine, machine));
            Edge.refuses("33: first 4", RICH, Edge.ARGUMENT, loom -> loom.two(4, machine));
            Edge.refuses("33: second 4", RICH, Edge.ARGUMENT, loom -> loom.two(machine, 4));
        }
        Edge.answers("33: 0 without orders", new Manyshiftloom(), 0, loom -> loom.two(0, 3));
        Edge.answers("33: 0 without works", Looms.bare(8), 0, loom -> loom.two(0, 3));
        Edge.answers("33: 0 without works on them", Looms.two(), 0, loom -> loom.two(2, 3));
        Edge.answers("33: all on the first one", longest(0), 1296, loom -> loom.two(1, 0));
        Edge.answers("33: all on the second one", longest(0), 1296, loom -> loom.two(0, 1));
        Edge.answers("33: without times", Looms.withoutTimes(), 1, loom -> loom.two(0, 1));
    }

    private static void twoAt() {
        Edge.within("34: first: 0 to 3", RICH, 0, 0, Edge.ARGUMENT, (loom, n) -> loom.twoAt(n == 1 ? 4 : n, 1, 0));
        Edge.within("34: second: 0 to 3", RICH, 0, 0, Edge.ARGUMENT, (loom, n) -> loom.twoAt(1, n == 1 ? 4 : n, 0));
        Edge.within("34: place", Looms::crossed, 0, 1, Edge.INDEX, (loom, n) -> loom.twoAt(0, 1, n));
        Edge.within("34: place of 8", Looms::full, 0, 7, Edge.INDEX, (loom, n) -> loom.twoAt(0, 1, n));
        Edge.refuses("34: no order at all", NEW, Edge.INDEX, loom -> loom.twoAt(0, 1, 0));
        Edge.refuses("34: none on them", Looms::two, Edge.INDEX, loom -> loom.twoAt(2, 3, 0));
        for (int number = 0; number < 4; number++) {
            int machine = number;
            Edge.refuses("34: both are the same", RICH, Edge.ARGUMENT, loom -> loom.twoAt(machine, machine, 0));
            Edge.refuses("34: that ahead of the place", NEW, Edge.ARGUMENT, loom -> loom.twoAt(machine, machine, 9));
            Edge.refuses("34: the first one ahead of the place", NEW, Edge.ARGUMENT, loom -> loom.twoAt(-1, machine, 9));
            Edge.refuses("34: the second one ahead of the place", NEW, Edge.ARGUMENT, loom -> loom.twoAt(machine, 4, -1));
        }
        Edge.answers("34: the greatest machine", Looms.full(), 5, loom -> loom.twoAt(2, 3, 1));
    }

    /** Orders of a time on machine 0 and one on machine 1; 0 is without a work. */
    private static String told(int... times) {
        Manyshiftloom loom = new Manyshiftloom();
        for (int order = 0; order < times.length / 2; order++) {
            loom.order(0, 1, 0, 0, 1);
            for (int machine = 0; machine < 2; machine++) {
                if (times[2 * order + machine] > 0) {
                    loom.work(order, machine, times[2 * order + machine], -1);
                }
            }
        }
        StringBuilder row = new StringBuilder();
        for (int place = 0; place < times.length / 2; place++) {
            row.append(loom.twoAt(0, 1, place));
        }
        return row.append(' ').append(loom.two(0, 1)).toString();
    }

    /** "first those whose time on the first one is less [...]; of several the least order". */
    private static void toldOrder() {
        Check.same("34: less by 1 comes first", told(3, 3, 3, 4), "10 10");
        Check.same("34: as long is not less", told(4, 4, 5, 5, 1, 2), "210 15");
        Check.same("34: of several ahead the least order", told(9, 1, 2, 9, 2, 3, 1, 8), "3120 22");
        Check.same("34: of several behind the least order", told(1, 2, 9, 4, 4, 4, 8, 5), "0312 26");
        Check.same("34: without a work on the first one", told(1, 9, 0, 1), "10 10");
        Check.same("34: without a work on the second one", told(9, 0, 9, 1), "10 18");
    }
}
