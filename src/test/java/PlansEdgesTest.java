import java.util.function.Supplier;

/** Promises 16 to 24 at their edges: each sentence of the document that names one has a test of its own. */
public final class PlansEdgesTest {
    private static final Supplier<Manyshiftloom> RICH = Looms::rich;
    private static final Supplier<Manyshiftloom> NONE = Looms::withoutTimes;
    private static final Supplier<Manyshiftloom> NEW = Manyshiftloom::new;

    public static void main(String[] args) {
        plan();
        ruleTies();
        ruleBehind2000();
        rowAt();
        presentPlan();
        hasTimes();
        begin();
        beginNotBelow();
        endOf();
        end();
        busy();
        workAt();
        load();
        Check.close();
    }

    private static void plan() {
        Edge.within("16: rule: 0 to 5", RICH, 0, 5, Edge.ARGUMENT, (loom, n) -> loom.plan(n));
        for (int number = 0; number < 6; number++) {
            int rule = number;
            Edge.answers("16: without works, rule " + rule, Looms.bare(8), true, loom -> loom.plan(rule));
            Edge.answers("16: 16 works, rule " + rule, Looms.full(), true, loom -> loom.plan(rule));
            Edge.answers("16: no times, rule " + rule, Looms.withoutTimes(), false, loom -> loom.plan(rule));
        }
        Manyshiftloom all = Looms.bare(0);
        for (int order = 0; order < 8; order++) {
            all.order(0, 1, 0, 70 - order, 1);
            all.work(order, 0, 1, -1);
            all.work(order, 0, 1, -1);
        }
        all.plan(3);
        Check.same("16: the row of 16 works", Looms.row(all), "7766554433221100");
        Edge.refuses("16: the rule ahead of the times", NONE, Edge.ARGUMENT, loom -> loom.plan(6));
        Manyshiftloom some = Looms.alike(2);
        some.order(0, 1, 0, 0, 9);
        some.move(0, 1);
        some.plan(4);
        Check.same("16: an order without works does not come", Looms.row(some), "01");
    }

    /** Three orders alike but in the one number that is told for each. */
    private static String rowBy(int rule, int what, int... numbers) {
        Manyshiftloom loom = new Manyshiftloom();
        for (int order = 0; order < numbers.length; order++) {
            int n = numbers[order];
            loom.order(0, 1, 0, what == 3 ? n : 0, what == 4 ? n : 1);
            loom.work(order, order, what == 1 ? n : 1, -1);
        }
        loom.plan(rule);
        return Looms.row(loom);
    }

    /** "of several the first one by the rule: [...]; of several the least order". */
    private static void ruleTies() {
        Check.same("16: rule 0", rowBy(0, 3, 9, 5, 5), "012");
        Check.same("16: the least time of this work", rowBy(1, 1, 3, 2, 2), "120");
        Check.same("16: the greatest", rowBy(2, 1, 3, 2, 3), "021");
        Check.same("16: the least day due", rowBy(3, 3, 500, 0, 0), "120");
        Check.same("16: the greatest weight", rowBy(4, 4, 1, 9, 9), "120");
        Check.same("16: the most time left", rowBy(5, 1, 1, 9, 9), "120");
        for (int rule = 0; rule < 6; rule++) {
            Check.same("16: all alike by rule " + rule, rowBy(rule, 1, 4, 4, 4), "012");
            Manyshiftloom later = new Manyshiftloom();
            later.order(0, 9, 1, 0, 9);
            later.work(0, 0, 9, -1);
            later.order(0, 1, 0, 1, 1);
            later.work(1, 1, 1, -1);
            later.plan(rule);
            Check.same("16: what would begin first comes first by rule " + rule, Looms.row(later), "10");
            Manyshiftloom better = new Manyshiftloom();
            better.order(0, 1, 0, 9, 1);
            better.work(0, 0, 5, -1);
            better.order(0, 1, 1, 0, 9);
            better.work(1, 1, rule == 2 || rule == 5 ? 9 : 1, -1);
            better.plan(rule);
            Check.same("16: though the other one is better by rule " + rule, Looms.row(better), "01");
        }
        Manyshiftloom left = new Manyshiftloom();
        for (int order = 0; order < 2; order++) {
            left.order(0, 1, 0, 0, 1);
            left.work(order, order, 2, -1);
        }
        left.work(1, 2, 1, -1);
        left.plan(5);
        Check.same("16: this work and those behind it", Looms.row(left), "101");
    }

    /** "(Here a work that would not end by 2000 begins and ends at 2001, and needs no worker.)" */
    private static void ruleBehind2000() {
        Manyshiftloom loom = new Manyshiftloom();
        loom.order(0, 1, 0, 0, 1);
        loom.work(0, 0, 3, -1);
        loom.work(0, 1, 1, -1);
        loom.order(0, 1, 0, 0, 1);
        loom.work(1, 0, 2, -1);
        loom.order(0, 1, 200, 0, 1);
        loom.work(2, 1, 1, -1);
        loom.rest(0, 0, 1998);
        for (int rule = 0; rule < 6; rule++) {
            Check.same("16: no times by rule " + rule, loom.plan(rule), false);
            Check.same("16: by 2000 it ends, behind it not, by rule " + rule, Looms.row(loom), "2100");
        }
        loom.drop(0);
        loom.move(0, 1);
        Check.same("16: with times", loom.plan(0), true);
        Check.same("16: the one that begins first", Looms.row(loom), "10");
        Check.same("16: its end", loom.endOf(0), 2000);
        Manyshiftloom both = new Manyshiftloom();
        both.order(0, 1, 0, 9, 1);
        both.work(0, 0, 5, -1);
        both.order(0, 1, 0, 5, 1);
        both.work(1, 1, 9, -1);
        both.rest(0, 0, 1999);
        both.rest(1, 0, 1995);
        both.plan(0);
        Check.same("16: both begin at 2001: the least order", Looms.row(both), "01");
        both.plan(3);
        Check.same("16: both begin at 2001: the least day due", Looms.row(both), "10");
        Manyshiftloom one = new Manyshiftloom();
        for (int order = 0; order < 2; order++) {
            one.order(0, 1, 0, 0, 1);
            one.work(order, order, 1, -1);
        }
        for (int shift = 0; shift < 3; shift++) {
            one.workers(shift, 1);
        }
        one.rest(0, 0, 2000);
        one.plan(0);
        Check.same("16: it needs no worker", Looms.row(one), "10");
    }

    private static void rowAt() {
        Edge.within("17: place", RICH, 0, 3, Edge.INDEX, (loom, n) -> loom.rowAt(n));
        Edge.within("17: place, 16 works", Looms::full, 0, 15, Edge.INDEX, (loom, n) -> loom.rowAt(n));
        Edge.refuses("17: there is no place", NEW, Edge.INDEX, loom -> loom.rowAt(0));
        Edge.refuses("17: no place without works", () -> Looms.bare(8), Edge.INDEX, loom -> loom.rowAt(0));
        Edge.answers("17: the first one", Looms.full(), 0, loom -> loom.rowAt(0));
        Edge.answers("17: the last one", Looms.full(), 7, loom -> loom.rowAt(15));
        Edge.answers("17: without times", Looms.withoutTimes(), 0, loom -> loom.rowAt(0));
    }

    /** "at first, and whenever an order comes or goes, a work comes, or an amount is told otherwise". */
    private static void presentPlan() {
        Edge.Call[] changes = {
            loom -> loom.order(0, 1, 0, 0, 1), loom -> loom.drop(2), loom -> loom.work(2, 0, 1, -1),
            loom -> loom.setAmount(1, 9), loom -> loom.cut(0, 1),
        };
        String[] rows = {"001122", "0011", "0011222", "001122", "00112233"};
        for (int change = 0; change < changes.length; change++) {
            Manyshiftloom loom = moved();
            changes[change].on(loom);
            Check.same("17: the first row again by change " + change, Looms.row(loom), rows[change]);
            String told = Whole.told(loom);
            loom.move(0, 0);
            Check.same("17: the times are those of that row by change " + change, Whole.told(loom), told);
        }
        Edge.Call[] others = {
            loom -> loom.setting(0, 0, 1, 5), loom -> loom.rest(0, 0, 1), loom -> loom.noRest(),
            loom -> loom.workers(0, 1), loom -> loom.setRate(true, 5), loom -> loom.keep(0),
        };
        for (int change = 0; change < others.length; change++) {
            Manyshiftloom loom = moved();
            others[change].on(loom);
            Check.same("17: the row stays by change " + change, Looms.row(loom), "211200");
            String told = Whole.told(loom);
            loom.move(0, 0);
            Check.same("17: the times are those of that row by change " + change, Whole.told(loom), told);
        }
    }

    private static Manyshiftloom moved() {
        Manyshiftloom loom = new Manyshiftloom();
        for (int order = 0; order < 3; order++) {
            loom.order(order, 2, 0, 0, 1);
            loom.work(order, 0, 1, -1);
            loom.work(order, 1, 1, -1);
        }
        Looms.read(loom, "211200");
        return loom;
    }

    private static void hasTimes() {
        Check.same("18: without orders", new Manyshiftloom().hasTimes(), true);
        Check.same("18: without works", Looms.bare(8).hasTimes(), true);
        Check.same("18: it ends at 2000", Looms.latest().hasTimes(), true);
        Manyshiftloom loom = Looms.latest();
        loom.setAmount(0, 2);
        Check.same("18: it would end behind 2000", loom.hasTimes(), false);
        loom.noRest();
        Check.same("18: without the rest", loom.hasTimes(), true);
        Check.same("18: the first place has none", Looms.withoutTimes().hasTimes(), false);
        Check.same("18: the last place has none", Looms.gap().hasTimes(), false);
        Manyshiftloom setting = Looms.single(0, 0, 1);
        setting.order(1, 1, 0, 0, 1);
        setting.work(1, 0, 1, -1);
        setting.rest(0, 1, 1999);
        Check.same("18: the second one ends at 2000", setting.end(), 2000);
        setting.setting(0, 0, 1, 20);
        Check.same("18: a setting in the rest", setting.end(), 2000);
        setting.rest(0, 0, 1);
        Check.same("18: both behind the rest", setting.hasTimes(), false);
    }

    private static void begin() {
        Edge.within("19: order", Looms::crossed, 0, 1, Edge.INDEX, (loom, n) -> loom.begin(n, 0));
        Edge.within("19: work", Looms::crossed, 0, 1, Edge.INDEX, (loom, n) -> loom.begin(0, n));
        Edge.refuses("19: no order at all", NEW, Edge.INDEX, loom -> loom.begin(0, 0));
        Edge.refuses("19: an order without works", () -> Looms.bare(1), Edge.INDEX, loom -> loom.begin(0, 0));
        Edge.refuses("19: no times", NONE, Edge.STATE, loom -> loom.begin(0, 0));
        Edge.refuses("19: the order ahead of the times", NONE, Edge.INDEX, loom -> loom.begin(1, 0));
        Edge.refuses("19: the work ahead of the times", NONE, Edge.INDEX, loom -> loom.begin(0, 1));
        Edge.answers("19: the least begin", Looms.single(0, 0, 9), 0, loom -> loom.begin(0, 0));
        Edge.answers("19: the greatest begin", Looms.latest(), 1999, loom -> loom.begin(0, 0));
        Edge.answers("19: not below the release", Looms.single(200, 0, 1), 200, loom -> loom.begin(0, 0));
    }

    /** "the least time, not below [...]": each of the four, when it is the one that counts. */
    private static void beginNotBelow() {
        Manyshiftloom loom = new Manyshiftloom();
        loom.order(0, 1, 0, 0, 1);
        loom.work(0, 0, 5, 0);
        loom.order(1, 1, 3, 0, 1);
        loom.work(1, 1, 1, -1);
        Check.same("19: the release", loom.begin(1, 0), 3);
        loom.work(1, 1, 1, -1);
        Check.same("19: the end of the work ahead in the order", loom.begin(1, 1), 4);
        loom.work(1, 1, 1, 0);
        Check.same("19: as its tool ends", loom.begin(1, 2), 5);
        loom.work(1, 0, 1, -1);
        Check.same("19: behind all of them", loom.begin(1, 3), 6);
        loom.setting(0, 0, 1, 1);
        Check.same("19: the setting ends as the order does", loom.begin(1, 3), 6);
        loom.setting(0, 0, 1, 2);
        Check.same("19: the machine and its setting", loom.begin(1, 3), 7);
        loom.move(0, 4);
        Check.same("19: the works that have no times yet do not count", loom.begin(1, 2), 5);
        Check.same("19: behind them", loom.begin(0, 0), 7);
    }

    private static void endOf() {
        Edge.within("20: order", RICH, 0, 2, Edge.INDEX, (loom, n) -> loom.endOf(n));
        Edge.refuses("20: no order at all", NEW, Edge.INDEX, loom -> loom.endOf(0));
        Edge.refuses("20: no times", NONE, Edge.STATE, loom -> loom.endOf(0));
        Edge.refuses("20: the order ahead of the times", NONE, Edge.INDEX, loom -> loom.endOf(1));
        Manyshiftloom loom = new Manyshiftloom();
        loom.order(0, 1, 0, 0, 1);
        loom.order(0, 1, 200, 0, 1);
        Check.same("20: the least release without works", loom.endOf(0), 0);
        Check.same("20: the greatest release without works", loom.endOf(1), 200);
        Edge.answers("20: the greatest end", Looms.latest(), 2000, other -> other.endOf(0));
        Manyshiftloom none = Looms.withoutTimes();
        none.order(0, 1, 7, 0, 1);
        Check.raisesState("20: without works, but the plan has no times", () -> none.endOf(1));
    }

    private static void end() {
        Edge.refuses("21: no times", NONE, Edge.STATE, Manyshiftloom::end);
        Edge.answers("21: 0 without orders", new Manyshiftloom(), 0, Manyshiftloom::end);
        Manyshiftloom loom = new Manyshiftloom();
        loom.order(0, 1, 200, 0, 1);
        Check.same("21: 0 without works, though released later", loom.end(), 0);
        Edge.answers("21: the greatest end", Looms.latest(), 2000, Manyshiftloom::end);
        Manyshiftloom first = Looms.single(0, 0, 9);
        first.order(0, 1, 0, 0, 1);
        first.work(1, 1, 1, -1);
        Check.same("21: the greatest, not the last of the row", first.end(), 9);
    }

    private static void busy() {
        Edge.within("22: time: 0 to 2000", RICH, 0, 2000, Edge.ARGUMENT, (loom, n) -> loom.busy(n));
        Edge.refuses("22: no times", NONE, Edge.STATE, loom -> loom.busy(0));
        Edge.refuses("22: the time ahead of the plan", NONE, Edge.ARGUMENT, loom -> loom.busy(-1));
        Edge.refuses("22: the time ahead of the plan", NONE, Edge.ARGUMENT, loom -> loom.busy(2001));
        Manyshiftloom loom = Looms.single(4, 0, 3);
        int[] due = {0, 0, 0, 0, 1, 1, 1, 0, 0};
        for (int time = 0; time < due.length; time++) {
            Check.same("22: begun by then, and not ended, at " + time, loom.busy(time), due[time]);
        }
        Manyshiftloom latest = Looms.latest();
        Check.same("22: ahead of the latest work", latest.busy(1998), 0);
        Check.same("22: the latest work", latest.busy(1999), 1);
        Check.same("22: it has ended", latest.busy(2000), 0);
        Manyshiftloom four = new Manyshiftloom();
        for (int order = 0; order < 4; order++) {
            four.order(0, 1, 0, 0, 1);
            four.work(order, order, 1, -1);
        }
        Check.same("22: the most at once", four.busy(0), 4);
    }

    private static void workAt() {
        Edge.within("23: machine: 0 to 3", RICH, 0, 3, Edge.ARGUMENT, (loom, n) -> loom.workAt(n, 0));
        Edge.within("23: time: 0 to 2000", RICH, 0, 2000, Edge.ARGUMENT, (loom, n) -> loom.workAt(0, n));
        Edge.refuses("23: no times", NONE, Edge.STATE, loom -> loom.workAt(0, 0));
        Edge.refuses("23: the machine ahead of the plan", NONE, Edge.ARGUMENT, loom -> loom.workAt(4, 0));
        Edge.refuses("23: the time ahead of the plan", NONE, Edge.ARGUMENT, loom -> loom.workAt(0, 2001));
        Manyshiftloom loom = Looms.single(4, 0, 3);
        loom.order(0, 1, 0, 0, 1);
        loom.work(1, 0, 1, -1);
        int[] due = {-1, -1, -1, -1, 0, 0, 0, 1, -1};
        for (int time = 0; time < due.length; time++) {
            Check.same("23: at " + time, loom.workAt(0, time), due[time]);
            Check.same("23: NONE without one, at " + time, loom.workAt(1, time), -1);
        }
        Manyshiftloom latest = Looms.latest();
        Check.same("23: ahead of the latest work", latest.workAt(0, 1998), -1);
        Check.same("23: the latest work", latest.workAt(0, 1999), 0);
        Check.same("23: it has ended", latest.workAt(0, 2000), -1);
    }

    private static void load() {
        Edge.within("24: machine: 0 to 3", RICH, 0, 3, Edge.ARGUMENT, (loom, n) -> loom.load(n));
        Manyshiftloom loom = Looms.bare(4);
        for (int machine = 0; machine < 4; machine++) {
            Check.same("24: without works", loom.load(machine), 0);
        }
        for (int order = 0; order < 4; order++) {
            for (int count = 0; count < 4; count++) {
                loom.work(order, 3, 9, -1);
            }
        }
        Check.same("24: the most", loom.load(3), 16 * 81);
        Check.same("24: another machine", loom.load(2), 0);
        loom.rest(3, 0, 2000);
        Check.same("24: without times", loom.load(3), 16 * 81);
    }
}
