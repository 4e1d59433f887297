/** Promises 16 to 24: plans and their times. */
public final class PlansTest {
    public static void main(String[] args) {
        rules();
        ruleWithoutTimes();
        rowAt();
        hasTimes();
        begin();
        tools();
        endOf();
        end();
        busy();
        workAt();
        load();
        Check.close();
    }

    /** Five orders that begin together; each rule has its own first one, of several the least order. */
    private static void rules() {
        Manyshiftloom loom = new Manyshiftloom();
        int[][] orders = {{2, 50, 1, 3}, {1, 40, 2, 2}, {3, 30, 3, 1}, {1, 20, 9, 3}, {3, 20, 9, 1}};
        for (int order = 0; order < orders.length; order++) {
            int[] of = orders[order];
            loom.order(0, of[0], 0, of[1], of[2]);
            loom.work(order, order == 4 ? 3 : order % 4, of[3], -1);
        }
        loom.work(1, 3, 9, -1);
        int[] first = {0, 1, 0, 3, 3, 1};
        for (int rule = 0; rule < 6; rule++) {
            Check.same("16: has times", loom.plan(rule), true);
            Check.same("16: first by rule " + rule, loom.rowAt(0), first[rule]);
        }
        Check.raisesArgument("16: rule -1", () -> loom.plan(-1));
        Check.raisesArgument("16: rule 6", () -> loom.plan(6));
        Manyshiftloom earlier = new Manyshiftloom();
        earlier.order(0, 1, 1, 0, 9);
        earlier.work(0, 0, 1, -1);
        earlier.order(0, 1, 0, 500, 1);
        earlier.work(1, 0, 9, -1);
        earlier.work(1, 0, 9, -1);
        earlier.plan(4);
        Check.same("16: what begins first comes first", Looms.row(earlier), "101");
        Manyshiftloom whole = Looms.two();
        whole.plan(1);
        Check.same("16: by what a work takes", Looms.row(whole), "100");
        whole.plan(2);
        Check.same("16: the greatest", Looms.row(whole), "010");
        Manyshiftloom left = new Manyshiftloom();
        left.order(0, 1, 0, 0, 1);
        left.work(0, 0, 1, -1);
        left.work(0, 0, 1, -1);
        left.work(0, 0, 1, -1);
        left.order(0, 1, 0, 0, 1);
        left.work(1, 1, 1, -1);
        left.work(1, 0, 1, -1);
        left.plan(5);
        Check.same("16: the time that is left, this work too", Looms.row(left), "01001");
        Check.same("16: without works", new Manyshiftloom().plan(0), true);
    }

    private static void ruleWithoutTimes() {
        Manyshiftloom loom = new Manyshiftloom();
        loom.order(0, 9, 0, 0, 1);
        loom.work(0, 0, 9, -1);
        loom.work(0, 1, 1, -1);
        loom.order(0, 1, 0, 0, 1);
        loom.work(1, 2, 1, -1);
        loom.work(1, 0, 2, -1);
        loom.rest(0, 60, 2000);
        Check.same("16: no times", loom.plan(0), false);
        Check.same("16: a work that does not end begins at 2001", Looms.row(loom), "1100");
        Check.same("16: it is the present one", loom.hasTimes(), false);
        loom.plan(4);
        Check.same("16: by any rule", Looms.row(loom), "1100");
        loom.workers(0, 1);
        loom.workers(1, 1);
        loom.workers(2, 1);
        loom.plan(0);
        Check.same("16: it needs no worker", Looms.row(loom), "1100");
    }

    private static void rowAt() {
        Manyshiftloom loom = Looms.two();
        Check.same("17: first row", Looms.row(loom), "001");
        Check.raisesIndex("17: -1", () -> loom.rowAt(-1));
        Check.raisesIndex("17: 3", () -> loom.rowAt(3));
        Manyshiftloom bare = new Manyshiftloom();
        Check.raisesIndex("17: none", () -> bare.rowAt(0));
        Check.same("17: without times", Looms.withoutTimes().rowAt(0), 0);
    }

    private static void hasTimes() {
        Check.same("18: has", Looms.two().hasTimes(), true);
        Check.same("18: has not", Looms.withoutTimes().hasTimes(), false);
        Manyshiftloom loom = Looms.withoutTimes();
        loom.drop(0);
        Check.same("18: without works", loom.hasTimes(), true);
    }

    private static void begin() {
        Manyshiftloom loom = Looms.two();
        Check.same("19: first", loom.begin(0, 0), 0);
        Check.same("19: behind the work ahead", loom.begin(0, 1), 6);
        Check.same("19: behind the machine's", loom.begin(1, 0), 6);
        Check.raisesIndex("19: order 2", () -> loom.begin(2, 0));
        Check.raisesIndex("19: order -1", () -> loom.begin(-1, 0));
        Check.raisesIndex("19: work 2", () -> loom.begin(0, 2));
        Check.raisesIndex("19: work -1", () -> loom.begin(0, -1));
        Manyshiftloom none = Looms.withoutTimes();
        Check.raisesState("19: no times", () -> none.begin(0, 0));
        Check.raisesIndex("19: the place first", () -> none.begin(0, 1));
        Manyshiftloom released = new Manyshiftloom();
        released.order(0, 1, 200, 0, 1);
        released.work(0, 0, 1, -1);
        released.order(0, 1, 0, 0, 1);
        released.work(1, 0, 1, -1);
        Check.same("19: not below the release", released.begin(0, 0), 200);
        Check.same("19: no gap is filled ahead of it", released.begin(1, 0), 201);
        released.move(0, 1);
        Check.same("19: another row", released.begin(1, 0), 0);
    }

    private static void tools() {
        Manyshiftloom loom = new Manyshiftloom();
        loom.order(0, 1, 0, 0, 1);
        loom.work(0, 0, 5, 2);
        loom.order(1, 1, 0, 0, 1);
        loom.work(1, 1, 3, 2);
        loom.order(2, 1, 0, 0, 1);
        loom.work(2, 2, 3, 1);
        loom.order(3, 1, 0, 0, 1);
        loom.work(3, 3, 3, -1);
        loom.setting(0, 0, 1, 9);
        loom.setting(1, 0, 1, 9);
        Check.same("19: the tool is shared, without a setting", loom.begin(1, 0), 5);
        Check.same("19: another tool", loom.begin(2, 0), 0);
        Check.same("19: no tool", loom.begin(3, 0), 0);
    }

    private static void endOf() {
        Manyshiftloom loom = Looms.two();
        Check.same("20: of its last work", loom.endOf(0), 10);
        Check.same("20: of the other", loom.endOf(1), 11);
        loom.order(0, 1, 77, 0, 1);
        Check.same("20: its release without works", loom.endOf(2), 77);
        Check.raisesIndex("20: order 3", () -> loom.endOf(3));
        Check.raisesIndex("20: order -1", () -> loom.endOf(-1));
        Manyshiftloom none = Looms.withoutTimes();
        Check.raisesState("20: no times", () -> none.endOf(0));
        Check.raisesIndex("20: the order first", () -> none.endOf(1));
    }

    private static void end() {
        Check.same("21: two", Looms.two().end(), 11);
        Manyshiftloom loom = new Manyshiftloom();
        loom.order(0, 1, 77, 0, 1);
        Check.same("21: 0 without works", loom.end(), 0);
        Manyshiftloom none = Looms.withoutTimes();
        Check.raisesState("21: no times", none::end);
    }

    private static void busy() {
        Manyshiftloom loom = Looms.two();
        int[] due = {1, 1, 1, 1, 1, 1, 2, 2, 2, 2, 1, 0, 0};
        for (int time = 0; time < due.length; time++) {
            Check.same("22: at " + time, loom.busy(time), due[time]);
        }
        Check.same("22: at 2000", loom.busy(2000), 0);
        Check.raisesArgument("22: -1", () -> loom.busy(-1));
        Check.raisesArgument("22: 2001", () -> loom.busy(2001));
        Manyshiftloom none = Looms.withoutTimes();
        Check.raisesState("22: no times", () -> none.busy(0));
        Check.raisesArgument("22: the number first", () -> none.busy(2001));
    }

    private static void workAt() {
        Manyshiftloom loom = Looms.two();
        int[] onFirst = {0, 0, 0, 0, 0, 0, 1, 1, 1, 1, 1, -1};
        int[] onSecond = {-1, -1, -1, -1, -1, -1, 0, 0, 0, 0, -1, -1};
        for (int time = 0; time < onFirst.length; time++) {
            Check.same("23: machine 0 at " + time, loom.workAt(0, time), onFirst[time]);
            Check.same("23: machine 1 at " + time, loom.workAt(1, time), onSecond[time]);
            Check.same("23: machine 3 at " + time, loom.workAt(3, time), -1);
        }
        Check.same("23: at 2000", loom.workAt(0, 2000), -1);
        int[][] wrong = {{-1, 0}, {4, 0}, {0, -1}, {0, 2001}};
        Manyshiftloom none = Looms.withoutTimes();
        for (int[] w : wrong) {
            Check.raisesArgument("23: out of range", () -> loom.workAt(w[0], w[1]));
            Check.raisesArgument("23: out of range, no times", () -> none.workAt(w[0], w[1]));
        }
        Check.raisesState("23: no times", () -> none.workAt(0, 0));
    }

    private static void load() {
        Manyshiftloom loom = Looms.two();
        int[] due = {11, 4, 0, 0};
        for (int machine = 0; machine < 4; machine++) {
            Check.same("24: machine " + machine, loom.load(machine), due[machine]);
        }
        Check.raisesArgument("24: -1", () -> loom.load(-1));
        Check.raisesArgument("24: 4", () -> loom.load(4));
        Check.same("24: without times", Looms.withoutTimes().load(0), 1);
    }
}
