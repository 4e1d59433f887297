/** Promises 35 to 43: rates, costs, moves, plans held against each other. */
public final class CostsMovesTest {
    public static void main(String[] args) {
        setRate();
        cost();
        late();
        move();
        improve();
        improveByCost();
        improveNot();
        without();
        keep();
        keptGoes();
        take();
        differ();
        Check.close();
    }

    private static void setRate() {
        Manyshiftloom loom = new Manyshiftloom();
        Check.raisesArgument("35: -1", () -> loom.setRate(true, -1));
        Check.raisesArgument("35: 1001", () -> loom.setRate(false, 1001));
        Check.same("35: late", loom.setRate(true, 1000), 1);
        Check.same("35: early", loom.setRate(false, 7), 0);
        Check.same("35: late before", loom.setRate(true, 0), 1000);
        Check.same("35: early before", loom.setRate(false, 0), 7);
    }

    private static void cost() {
        Manyshiftloom loom = Looms.two();
        Check.same("36: order 1 is 6 late", loom.cost(), 12);
        loom.setRate(true, 10);
        Check.same("36: by the rate", loom.cost(), 120);
        loom.order(0, 1, 3, 50, 4);
        Check.same("36: early ones cost nothing at first", loom.cost(), 120);
        loom.setRate(false, 5);
        Check.same("36: an order without works ends at its release", loom.cost(), 120 + 4 * 47 * 5);
        loom.order(0, 1, 9, 2, 3);
        Check.same("36: it can be late", loom.cost(), 120 + 4 * 47 * 5 + 3 * 7 * 10);
        Check.same("36: no orders", new Manyshiftloom().cost(), 0);
        Manyshiftloom dear = new Manyshiftloom();
        for (int order = 0; order < 8; order++) {
            dear.order(0, 1, 0, 0, 9);
            dear.work(order, order % 4, 1, -1);
        }
        for (int machine = 0; machine < 4; machine++) {
            dear.rest(machine, 0, 1990);
        }
        dear.setRate(true, 1000);
        Check.same("36: dear", dear.cost(), 9000L * 4 * (1991 + 1992));
        Manyshiftloom none = Looms.withoutTimes();
        Check.raisesState("36: no times", none::cost);
    }

    private static void late() {
        Manyshiftloom loom = Looms.two();
        Check.same("37: one is late, one is just in time", loom.late(), 1);
        loom.rest(1, 0, 7);
        Check.same("37: two are late", loom.late(), 2);
        loom.order(0, 1, 9, 8, 1);
        Check.same("37: without works", loom.late(), 3);
        loom.order(0, 1, 9, 9, 1);
        Check.same("37: in time", loom.late(), 3);
        Check.same("37: no orders", new Manyshiftloom().late(), 0);
        Manyshiftloom none = Looms.withoutTimes();
        Check.raisesState("37: no times", none::late);
    }

    private static void move() {
        Manyshiftloom loom = Looms.alike(5);
        Check.same("38: up", loom.move(1, 3), true);
        Check.same("38: up", Looms.row(loom), "02314");
        loom.move(4, 0);
        Check.same("38: down", Looms.row(loom), "40231");
        loom.move(2, 2);
        Check.same("38: to where it was", Looms.row(loom), "40231");
        loom.move(0, 4);
        Check.same("38: to the end", Looms.row(loom), "02314");
        loom.move(3, 2);
        Check.same("38: by one", Looms.row(loom), "02134");
        Check.same("38: times", loom.begin(1, 0), 2);
        int[][] wrong = {{-1, 0}, {5, 0}, {0, -1}, {0, 5}};
        for (int[] w : wrong) {
            Check.raisesIndex("38: place", () -> loom.move(w[0], w[1]));
        }
        Check.raisesIndex("38: no place", () -> new Manyshiftloom().move(0, 0));
        Check.same("38: no times", Looms.withoutTimes().move(0, 0), false);
        Manyshiftloom gap = Looms.gap();
        Check.same("38: gets times", gap.move(0, 1), true);
        Check.same("38: loses them", gap.move(0, 1), false);
    }

    private static void improve() {
        Manyshiftloom loom = Looms.two();
        loom.rest(0, 2, 4);
        loom.plan(1);
        Check.same("39: row before", Looms.row(loom), "100");
        Check.same("39: by 4", loom.improve(), 4);
        Check.same("39: the least place that is taken", Looms.row(loom), "010");
        Check.same("39: no better one", loom.improve(), -1);
        Check.same("39: nothing is different", Looms.row(loom), "010");
        Manyshiftloom places = new Manyshiftloom();
        places.order(0, 1, 0, 0, 1);
        places.work(0, 0, 1, -1);
        places.order(0, 1, 0, 0, 1);
        places.work(1, 1, 1, -1);
        places.order(0, 1, 9, 0, 1);
        places.work(2, 0, 1, -1);
        places.move(2, 0);
        Check.same("39: end before", places.end(), 11);
        Check.same("39: from 0 to 1 is not enough", Looms.row(places), "201");
        Check.same("39: by 1", places.improve(), 1);
        Check.same("39: the least place to which it comes", Looms.row(places), "021");
    }

    private static void improveByCost() {
        Manyshiftloom loom = new Manyshiftloom();
        for (int weight = 1; weight <= 3; weight++) {
            loom.order(0, 1, 0, 0, weight);
            loom.work(weight - 1, 0, 2, -1);
        }
        Check.same("39: cost before", loom.cost(), 28);
        Check.same("39: the cost alone", loom.improve(), 0);
        Check.same("39: of the same cost the least place that is taken", Looms.row(loom), "120");
        Check.same("39: again", loom.improve(), 0);
        Check.same("39: the last one", Looms.row(loom), "210");
        Check.same("39: no better one", loom.improve(), -1);
        loom.setRate(true, 0);
        Check.same("39: the same cost is not better", loom.improve(), -1);
        Manyshiftloom heavy = new Manyshiftloom();
        for (int order = 0; order < 3; order++) {
            heavy.order(0, 1, 0, 0, order == 2 ? 9 : 1);
            heavy.work(order, 0, 2, -1);
        }
        Check.same("39: to the first place", heavy.improve(), 0);
        Check.same("39: the last one is taken", Looms.row(heavy), "201");
        Manyshiftloom dearer = new Manyshiftloom();
        dearer.order(0, 1, 4, 0, 1);
        dearer.work(0, 0, 1, -1);
        dearer.order(0, 1, 0, 1, 9);
        dearer.work(1, 0, 3, -1);
        dearer.setRate(false, 100);
        Check.same("39: the end counts ahead of the cost", dearer.improve(), 3);
    }

    private static void improveNot() {
        Check.same("39: without works", new Manyshiftloom().improve(), -1);
        Check.same("39: one work", Looms.alike(1).improve(), -1);
        Manyshiftloom none = Looms.withoutTimes();
        Check.raisesState("39: no times", none::improve);
    }

    private static void without() {
        Manyshiftloom loom = Looms.two();
        Check.same("40: without 0", loom.without(0), 5);
        Check.same("40: without 1", loom.without(1), 10);
        Check.same("40: the row is as it was", Looms.row(loom), "001");
        Check.same("40: so are the times", loom.begin(1, 0), 6);
        Check.raisesIndex("40: order 2", () -> loom.without(2));
        Check.raisesIndex("40: order -1", () -> loom.without(-1));
        Manyshiftloom none = Looms.withoutTimes();
        Check.same("40: no works are left", none.without(0), 0);
        none.order(0, 1, 0, 0, 1);
        Check.same("40: no times", none.without(1), -1);
        Manyshiftloom some = Looms.alike(3);
        some.move(0, 2);
        some.setAmount(1, 9);
        some.rest(0, 5, 2000);
        Check.same("40: the present one has no times", some.hasTimes(), false);
        Check.same("40: without the one that is too long", some.without(1), 2);
        Manyshiftloom kinds = new Manyshiftloom();
        for (int kind = 0; kind < 3; kind++) {
            kinds.order(kind, 1, 0, 0, 1);
            kinds.work(kind, 0, 1, -1);
        }
        kinds.setting(0, 0, 2, 9);
        Check.same("40: the setting between those that are left", kinds.without(1), 11);
    }

    private static void keep() {
        Manyshiftloom loom = Looms.crossed();
        Check.raisesArgument("41: -1", () -> loom.keep(-1));
        Check.raisesArgument("41: 3", () -> loom.keep(3));
        Check.same("41: its end", loom.keep(2), 9);
        loom.least();
        Check.same("41: another slot", loom.keep(0), 7);
        Check.same("42: the first one", loom.take(2), 9);
        Check.same("42: its row", Looms.row(loom), "0011");
        Check.same("42: the second one", loom.take(0), 7);
        Check.same("41: in the place of another one", loom.keep(2), 7);
        Check.same("42: that one", loom.take(2), 7);
        Manyshiftloom none = Looms.withoutTimes();
        Check.same("41: no times", none.keep(1), -1);
        Check.same("42: no times", none.take(1), -1);
        none.workers(0, 1);
        Check.same("42: by what is told now", none.take(1), 1);
    }

    private static void keptGoes() {
        for (int way = 0; way < 4; way++) {
            Manyshiftloom loom = Looms.two();
            for (int slot = 0; slot < 3; slot++) {
                loom.keep(slot);
            }
            switch (way) {
                case 0:
                    loom.order(0, 1, 0, 0, 1);
                    break;
                case 1:
                    loom.drop(1);
                    break;
                case 2:
                    loom.work(1, 0, 1, -1);
                    break;
                default:
                    loom.cut(0, 1);
            }
            for (int slot = 0; slot < 3; slot++) {
                int at = slot;
                Check.raisesElement("41: goes by way " + way, () -> loom.take(at));
                Check.raisesElement("41: goes by way " + way, () -> loom.differ(at));
            }
        }
        Manyshiftloom stays = Looms.two();
        stays.keep(0);
        stays.setAmount(0, 1);
        stays.setting(0, 0, 1, 3);
        stays.rest(0, 0, 1);
        stays.workers(0, 3);
        stays.plan(2);
        Check.same("41: stays otherwise", stays.differ(0), 3);
    }

    private static void take() {
        Manyshiftloom loom = Looms.two();
        Check.raisesArgument("42: -1", () -> loom.take(-1));
        Check.raisesArgument("42: 3", () -> loom.take(3));
        Check.raisesElement("42: none", () -> loom.take(0));
        loom.move(2, 0);
        loom.keep(0);
        loom.move(0, 2);
        Check.same("42: end", loom.take(0), 15);
        Check.same("42: row", Looms.row(loom), "100");
        Check.same("42: it stays there", loom.take(0), 15);
    }

    private static void differ() {
        Manyshiftloom loom = Looms.crossed();
        Check.raisesArgument("43: -1", () -> loom.differ(-1));
        Check.raisesArgument("43: 3", () -> loom.differ(3));
        Check.raisesElement("43: none", () -> loom.differ(0));
        loom.keep(0);
        Check.same("43: itself", loom.differ(0), 0);
        loom.move(1, 2);
        Check.same("43: another row, the same times", loom.differ(0), 0);
        loom.least();
        Check.same("43: all", loom.differ(0), 4);
        Check.same("43: the row stays", Looms.row(loom), "1010");
        Manyshiftloom gap = Looms.gap();
        Check.raisesElement("43: the slot first", () -> gap.differ(1));
        gap.keep(0);
        Check.raisesState("43: neither has times", () -> gap.differ(0));
        gap.move(0, 1);
        Check.raisesState("43: the kept one has none", () -> gap.differ(0));
        gap.keep(1);
        Check.same("43: both have", gap.differ(1), 0);
        gap.move(0, 1);
        Check.raisesState("43: the present one has none", () -> gap.differ(1));
    }
}
