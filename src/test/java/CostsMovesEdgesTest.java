import java.util.function.Supplier;

/** Promises 35 to 43 at their edges: each sentence of the document that names one has a test of its own. */
public final class CostsMovesEdgesTest {
    private static final Supplier<Manyshiftloom> RICH = Looms::rich;
    private static final Supplier<Manyshiftloom> NONE = Looms::withoutTimes;
    private static final Supplier<Manyshiftloom> NEW = Manyshiftloom::new;

    public static void main(String[] args) {
        setRate();
        cost();
        costOfTheMost();
        late();
        move();
        moveToTheEnds();
        improve();
        improveOrNot();
        without();
        keep();
        keptGoesOrStays();
        take();
        differ();
        differByTimes();
        Check.close();
    }

    private static void setRate() {
        Edge.within("35: rate for late ones: 0 to 1000", RICH, 0, 1000, Edge.ARGUMENT, (loom, n) -> loom.setRate(true, n));
        Edge.within("35: rate for early ones: 0 to 1000", RICH, 0, 1000, Edge.ARGUMENT,
                (loom, n) -> loom.setRate(false, n));
        Edge.answers("35: 1 at first", new Manyshiftloom(), 1, loom -> loom.setRate(true, 1000));
        Edge.answers("35: 0 at first", new Manyshiftloom(), 0, loom -> loom.setRate(false, 1000));
        Manyshiftloom loom = new Manyshiftloom();
        loom.setRate(true, 1000);
        Check.same("35: the other one stays", loom.setRate(false, 999), 0);
        Check.same("35: the greatest before", loom.setRate(true, 0), 1000);
        Check.same("35: the least before", loom.setRate(true, 5), 0);
        Check.same("35: the other one before", loom.setRate(false, 0), 999);
    }

    private static void cost() {
        Edge.refuses("36: no times", NONE, Edge.STATE, Manyshiftloom::cost);
        Edge.answers("36: without orders", new Manyshiftloom(), 0L, Manyshiftloom::cost);
        Manyshiftloom loom = Looms.single(0, 5, 5);
        loom.setRate(true, 100);
        loom.setRate(false, 10);
        Check.same("36: just at its day due", loom.cost(), 0);
        Manyshiftloom behind = Looms.single(0, 4, 5);
        behind.setRate(true, 100);
        behind.setRate(false, 10);
        Check.same("36: behind it by 1", behind.cost(), 100);
        behind.setRate(true, 0);
        Check.same("36: the rate 0", behind.cost(), 0);
        Manyshiftloom ahead = Looms.single(0, 6, 5);
        Check.same("36: ahead of it, at the rate at first", ahead.cost(), 0);
        ahead.setRate(true, 100);
        ahead.setRate(false, 10);
        Check.same("36: ahead of it by 1", ahead.cost(), 10);
    }

    /** The greatest numbers of all, late and early; both are added. */
    private static void costOfTheMost() {
        Manyshiftloom early = new Manyshiftloom();
        for (int order = 0; order < 8; order++) {
            early.order(0, 1, 0, 500, 9);
        }
        early.setRate(false, 1000);
        Check.same("36: without works all of them end at 0", early.cost(), 8L * 9 * 500 * 1000);
        Manyshiftloom late = new Manyshiftloom();
        long ends = 0;
        for (int order = 0; order < 8; order++) {
            late.order(0, 1, 0, 0, 9);
            late.work(order, order % 4, 1, -1);
            ends += order < 4 ? 1999 : 2000;
        }
        for (int machine = 0; machine < 4; machine++) {
            late.rest(machine, 0, 1998);
        }
        late.setRate(true, 1000);
        Check.same("36: all of them as late as can be", late.cost(), 9000 * ends);
        Manyshiftloom both = Looms.single(0, 0, 9);
        both.order(0, 1, 0, 500, 9);
        both.setRate(true, 1000);
        both.setRate(false, 1000);
        Check.same("36: late and early ones", both.cost(), 9000 + 9L * 500 * 1000);
    }

    private static void late() {
        Edge.refuses("37: no times", NONE, Edge.STATE, Manyshiftloom::late);
        Edge.answers("37: without orders", new Manyshiftloom(), 0, Manyshiftloom::late);
        Edge.answers("37: just at its day due", Looms.single(0, 5, 5), 0, Manyshiftloom::late);
        Edge.answers("37: behind it by 1", Looms.single(0, 4, 5), 1, Manyshiftloom::late);
        Edge.answers("37: ahead of it by 1", Looms.single(0, 6, 5), 0, Manyshiftloom::late);
        Edge.answers("37: all of 8", Looms.full(), 8, Manyshiftloom::late);
        Manyshiftloom bare = new Manyshiftloom();
        bare.order(0, 1, 200, 200, 1);
        Check.same("37: without works, released at its day due", bare.late(), 0);
        bare.order(0, 1, 200, 199, 1);
        Check.same("37: without works, released behind it", bare.late(), 1);
        Manyshiftloom some = Looms.bare(0);
        for (int order = 0; order < 4; order++) {
            some.order(0, 1, 0, order == 1 ? 2 : order, 1);
            some.work(order, 0, 1, -1);
        }
        Check.same("37: those that end at 1, 3 and 4, not the one that ends at 2", some.late(), 3);
    }

    private static void move() {
        Edge.within("38: from", RICH, 0, 3, Edge.INDEX, (loom, n) -> loom.move(n, 0));
        Edge.within("38: to", RICH, 0, 3, Edge.INDEX, (loom, n) -> loom.move(0, n));
        Edge.within("38: from, of 16", Looms::full, 0, 15, Edge.INDEX, (loom, n) -> loom.move(n, 15));
        Edge.within("38: to, of 16", Looms::full, 0, 15, Edge.INDEX, (loom, n) -> loom.move(15, n));
        Edge.refuses("38: no place at all", NEW, Edge.INDEX, loom -> loom.move(0, 0));
        Edge.refuses("38: no place without works", () -> Looms.bare(8), Edge.INDEX, loom -> loom.move(0, 0));
        Edge.refuses("38: no such place, without times", NONE, Edge.INDEX, loom -> loom.move(0, 1));
        Edge.answers("38: one place to itself", Looms.alike(1), true, loom -> loom.move(0, 0));
        Edge.answers("38: without times", Looms.withoutTimes(), false, loom -> loom.move(0, 0));
        Edge.answers("38: it has times then", Looms.gap(), true, loom -> loom.move(1, 0));
    }

    private static String movedRow(int from, int to) {
        Manyshiftloom loom = Looms.alike(8);
        loom.move(from, to);
        return Looms.row(loom);
    }

    /** "A move takes a place of the row to another one; the others keep their order." */
    private static void moveToTheEnds() {
        Check.same("38: the first one to the end", movedRow(0, 7), "12345670");
        Check.same("38: the last one to the front", movedRow(7, 0), "70123456");
        Check.same("38: by one behind", movedRow(3, 4), "01243567");
        Check.same("38: by one ahead", movedRow(4, 3), "01243567");
        Check.same("38: the last one to itself", movedRow(7, 7), "01234567");
    }

    private static void improve() {
        Edge.refuses("39: no times", NONE, Edge.STATE, Manyshiftloom::improve);
        Edge.refuses("39: no times, though a move has", Looms::gap, Edge.STATE, Manyshiftloom::improve);
        Edge.answers("39: without orders", new Manyshiftloom(), -1, Manyshiftloom::improve);
        Edge.answers("39: without works", Looms.bare(8), -1, Manyshiftloom::improve);
        Edge.answers("39: one place", Looms.alike(1), -1, Manyshiftloom::improve);
        Manyshiftloom loom = Looms.rich();
        for (int turn = 0; turn < 20 && loom.improve() != -1; turn++) {
            Check.note(turn < 19, "39: there is an end of moves that are better");
        }
        String before = Whole.told(loom);
        Check.same("39: no such move", loom.improve(), -1);
        Check.same("39: nothing is different", Whole.told(loom), before);
    }

    /** Order 0 ends at 2, order 1 at 4; both have other costs if they change. */
    private static Manyshiftloom pair(int weight, int otherWeight) {
        Manyshiftloom loom = new Manyshiftloom();
        loom.order(0, 1, 0, 0, weight);
        loom.work(0, 0, 2, -1);
        loom.order(0, 1, 0, 0, otherWeight);
        loom.work(1, 0, 2, -1);
        return loom;
    }

    /** "if the end becomes less by it, or the cost with the same end". */
    private static void improveOrNot() {
        Edge.answers("39: the same end, the same cost", pair(5, 5), -1, Manyshiftloom::improve);
        Edge.answers("39: the same end, a greater cost", pair(5, 4), -1, Manyshiftloom::improve);
        Edge.answers("39: 0 if the cost alone", pair(5, 6), 0, Manyshiftloom::improve);
        Manyshiftloom end = Looms.single(1, 0, 1);
        end.order(0, 1, 0, 0, 1);
        end.work(1, 0, 1, -1);
        Check.same("39: by 1", end.improve(), 1);
        Check.same("39: the end then", end.end(), 2);
        Manyshiftloom gap = Looms.gap();
        gap.move(0, 1);
        Check.same("39: the only other row has no times", gap.improve(), -1);
        Manyshiftloom dear = Looms.single(1, 500, 1);
        dear.order(0, 1, 0, 500, 9);
        dear.work(1, 0, 1, -1);
        dear.setRate(false, 1000);
        Check.same("39: the end becomes less, the cost greater", dear.improve(), 1);
    }

    private static void without() {
        Edge.within("40: order", RICH, 0, 2, Edge.INDEX, (loom, n) -> loom.without(n));
        Edge.refuses("40: no order at all", NEW, Edge.INDEX, loom -> loom.without(0));
        Edge.refuses("40: no such order, without times", NONE, Edge.INDEX, loom -> loom.without(1));
        Edge.answers("40: no works are left", Looms.alike(1), 0, loom -> loom.without(0));
        Edge.answers("40: without an order without works", Looms.bare(8), 0, loom -> loom.without(7));
        Edge.answers("40: the last order", Looms.alike(8), 7, loom -> loom.without(7));
        Edge.answers("40: it has times without that one", Looms.gap(), 4, loom -> loom.without(0));
        Edge.answers("40: its end is 2000", Looms.gap(), 2000, loom -> loom.without(1));
        Manyshiftloom none = Looms.withoutTimes();
        none.order(0, 1, 0, 0, 1);
        Check.same("40: NONE if that has no times", none.without(1), -1);
        Check.same("40: though it has none with it, too", none.without(0), 0);
        Manyshiftloom setting = new Manyshiftloom();
        for (int kind = 0; kind < 3; kind++) {
            setting.order(kind, 1, 0, 0, 1);
            setting.work(kind, 0, 1, -1);
        }
        setting.setting(0, 0, 2, 20);
        Check.same("40: the end can be greater without it", setting.without(1), 22);
        Check.same("40: the question changes nothing", setting.end(), 3);
    }

    private static void keep() {
        Edge.within("41: slot: 0 to 2", RICH, 0, 2, Edge.ARGUMENT, (loom, n) -> loom.keep(n));
        Edge.answers("41: its end", Looms.latest(), 2000, loom -> loom.keep(0));
        Edge.answers("41: 0 without works", Looms.bare(8), 0, loom -> loom.keep(2));
        Manyshiftloom none = Looms.withoutTimes();
        Check.same("41: NONE if it has no times", none.keep(1), -1);
        Check.same("41: it is kept all the same", none.take(1), -1);
        Manyshiftloom full = Looms.full();
        full.keep(0);
        full.move(0, 15);
        full.keep(1);
        full.move(0, 15);
        full.keep(2);
        full.take(0);
        Check.same("42: the first slot", Looms.row(full), "0011223344556677");
        full.take(1);
        Check.same("42: the second slot", Looms.row(full), "0112233445566770");
        full.take(2);
        Check.same("42: the third slot", Looms.row(full), "1122334455667700");
        full.keep(0);
        full.take(1);
        full.take(0);
        Check.same("41: in the place of what was kept there", Looms.row(full), "1122334455667700");
    }

    private static Manyshiftloom kept() {
        Manyshiftloom loom = Looms.two();
        for (int slot = 0; slot < 3; slot++) {
            loom.move(0, 2);
            loom.keep(slot);
        }
        return loom;
    }

    /** "(It goes when an order comes or goes, or a work comes.)" */
    private static void keptGoesOrStays() {
        Edge.Call[] changes = {
            loom -> loom.order(0, 1, 0, 0, 1), loom -> loom.drop(0), loom -> loom.work(1, 0, 1, -1),
            loom -> loom.cut(0, 1),
        };
        for (int number = 0; number < changes.length; number++) {
            Edge.Call change = changes[number];
            for (int at = 0; at < 3; at++) {
                int slot = at;
                Supplier<Manyshiftloom> maker = () -> Edge.tried(kept(), change);
                Edge.refuses("41: it goes by change " + number, maker, Edge.ELEMENT, loom -> loom.take(slot));
                Edge.refuses("41: it goes by change " + number, maker, Edge.ELEMENT, loom -> loom.differ(slot));
                Manyshiftloom undone = maker.get();
                undone.undo();
                Check.same("41: it is there again when that is undone", undone.take(slot) > 0, true);
            }
        }
        Edge.Call[] others = {
            loom -> loom.setAmount(0, 9), loom -> loom.setting(0, 0, 1, 9), loom -> loom.rest(0, 0, 1), Manyshiftloom::noRest,
            loom -> loom.workers(0, 1), loom -> loom.plan(0), Manyshiftloom::least, loom -> loom.setRate(true, 0),
            loom -> loom.move(0, 1), Manyshiftloom::improve, loom -> loom.take(0), loom -> Looms.read(loom, "100"),
            loom -> loom.order(4, 1, 0, 0, 1), loom -> loom.drop(2), loom -> loom.work(0, 4, 1, -1),
            loom -> loom.cut(1, 1),
        };
        for (int number = 0; number < others.length; number++) {
            Manyshiftloom loom = Edge.tried(kept(), others[number]);
            loom.take(0);
            Check.same("41: it stays by " + number + ", slot 0", Looms.row(loom), "010");
            loom.take(1);
            Check.same("41: it stays by " + number + ", slot 1", Looms.row(loom), "100");
            loom.take(2);
            Check.same("41: it stays by " + number + ", slot 2", Looms.row(loom), "001");
        }
    }

    private static void take() {
        Edge.outside("42: slot: 0 to 2", RICH, 0, 2, Edge.ARGUMENT, (loom, n) -> loom.take(n));
        Edge.refuses("42: none is kept there", RICH, Edge.ELEMENT, loom -> loom.take(2));
        Edge.refuses("42: none is kept at all", NEW, Edge.ELEMENT, loom -> loom.take(0));
        Edge.refuses("42: none, without times", NONE, Edge.ELEMENT, loom -> loom.take(0));
        Edge.refuses("42: the slot ahead of what is kept", NEW, Edge.ARGUMENT, loom -> loom.take(3));
        Manyshiftloom bare = Looms.bare(8);
        bare.keep(0);
        Check.same("42: 0 without works", bare.take(0), 0);
        Manyshiftloom latest = Looms.latest();
        latest.keep(2);
        Check.same("42: its end", latest.take(2), 2000);
        Check.same("42: it can be taken again", latest.take(2), 2000);
        latest.rest(0, 1999, 2000);
        Check.same("42: NONE if it has no times", latest.take(2), -1);
        Check.same("42: it is the present one all the same", latest.hasTimes(), false);
    }

    private static void differ() {
        Edge.outside("43: slot: 0 to 2", RICH, 0, 2, Edge.ARGUMENT, (loom, n) -> loom.differ(n));
        Edge.refuses("43: none is kept there", RICH, Edge.ELEMENT, loom -> loom.differ(2));
        Edge.refuses("43: none is kept at all", NEW, Edge.ELEMENT, loom -> loom.differ(0));
        Edge.refuses("43: the slot ahead of what is kept", NEW, Edge.ARGUMENT, loom -> loom.differ(-1));
        Edge.refuses("43: the slot ahead of the times", NONE, Edge.ARGUMENT, loom -> loom.differ(3));
        Edge.refuses("43: what is kept ahead of the times", NONE, Edge.ELEMENT, loom -> loom.differ(0));
        Supplier<Manyshiftloom> neither = () -> keptAndMoved(false, false);
        Supplier<Manyshiftloom> keptOne = () -> keptAndMoved(true, false);
        Supplier<Manyshiftloom> present = () -> keptAndMoved(false, true);
        Edge.refuses("43: neither has times", neither, Edge.STATE, loom -> loom.differ(0));
        Edge.refuses("43: the present one has no times", keptOne, Edge.STATE, loom -> loom.differ(0));
        Edge.refuses("43: the kept one has no times", present, Edge.STATE, loom -> loom.differ(0));
        Edge.answers("43: both have", keptAndMoved(true, true), 0, loom -> loom.differ(0));
    }

    /** Which one has times: the plan that is kept, the present one. */
    private static Manyshiftloom keptAndMoved(boolean keptHas, boolean presentHas) {
        Manyshiftloom loom = Looms.gap();
        Looms.read(loom, keptHas ? "10" : "01");
        loom.keep(0);
        Looms.read(loom, presentHas ? "10" : "01");
        return loom;
    }

    private static void differByTimes() {
        Manyshiftloom bare = Looms.bare(8);
        bare.keep(0);
        Check.same("43: without works", bare.differ(0), 0);
        Manyshiftloom full = Looms.alike(8);
        full.keep(0);
        Looms.read(full, "76543210");
        Check.same("43: all of 8", full.differ(0), 8);
        Looms.read(full, "01234576");
        Check.same("43: the last two", full.differ(0), 2);
        Manyshiftloom apart = Looms.crossed();
        apart.keep(1);
        apart.move(1, 2);
        Check.same("43: another row, but no other times", apart.differ(1), 0);
        Manyshiftloom same = Looms.single(0, 0, 1);
        same.keep(0);
        same.rest(0, 0, 5);
        Check.same("43: both are told by what counts now", same.differ(0), 0);
    }
}
