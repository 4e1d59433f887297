/** Promises 50 to 54: undo, figures, second ways. */
public final class UndoTest {
    public static void main(String[] args) {
        eachChange();
        changesThatChangeNothing();
        questionsAreNoChanges();
        thrownAreNoChanges();
        twelve();
        keptAndRests();
        whatStays();
        checksum();
        meanEnd();
        use();
        errors();
        Check.close();
    }

    /** All that questions tell of a loom, but what undo leaves alone. */
    private static String told(Manyshiftloom loom) {
        StringBuilder told = new StringBuilder();
        for (int order = 0; order < loom.orders(); order++) {
            for (int what = 0; what < 7; what++) {
                told.append(loom.orderOf(order, what)).append(' ');
            }
            for (int work = 0; work < loom.orderOf(order, 5); work++) {
                for (int what = 0; what < 4; what++) {
                    told.append(loom.workOf(order, work, what)).append(' ');
                }
            }
        }
        told.append(Looms.row(loom)).append(' ').append(loom.hasTimes()).append(' ').append(loom.checksum());
        if (loom.hasTimes()) {
            told.append(' ').append(loom.cost()).append(' ').append(loom.end()).append(' ').append(loom.without(0));
        }
        for (int time = 0; time < 60; time++) {
            told.append(loom.rests(0, time) ? 'r' : '-');
        }
        for (int slot = 0; slot < 3; slot++) {
            try {
                told.append(' ').append(loom.differ(slot));
            } catch (RuntimeException thrown) {
                told.append(' ').append(thrown.getClass().getName());
            }
        }
        return told.toString();
    }

    /** Ten changes; each of those that follow has something to change. */
    private static Manyshiftloom begun() {
        Manyshiftloom loom = new Manyshiftloom();
        loom.order(0, 1, 0, 0, 1);
        loom.work(0, 0, 3, -1);
        loom.work(0, 1, 2, -1);
        loom.order(1, 2, 0, 0, 1);
        loom.work(1, 0, 1, -1);
        loom.work(1, 1, 4, -1);
        loom.rest(0, 30, 31);
        loom.setRate(true, 3);
        loom.keep(1);
        loom.move(0, 3);
        return loom;
    }

    private static void eachChange() {
        for (int change = 0; change < 18; change++) {
            Manyshiftloom loom = begun();
            String before = told(loom);
            change(loom, change);
            String after = told(loom);
            Check.same("50: one can be undone less, change " + change, loom.undo(), 10);
            Check.same("50: all is as it was, change " + change, told(loom), before);
            Check.note(!after.equals(before), "50: change " + change + " changes something");
            change(loom, change);
            Check.same("50: it can be done again, change " + change, told(loom), after);
        }
    }

    private static void change(Manyshiftloom loom, int change) {
        switch (change) {
            case 0: loom.order(1, 2, 3, 4, 5); break;
            case 1: loom.work(1, 2, 3, 0); break;
            case 2: loom.drop(0); break;
            case 3: loom.setAmount(0, 2); break;
            case 4: loom.cut(1, 1); break;
            case 5: loom.setting(0, 0, 1, 4); break;
            case 6: loom.drop(1); break;
            case 7: loom.rest(0, 1, 3); break;
            case 8: loom.noRest(); break;
            case 9: loom.workers(0, 1); break;
            case 10: loom.plan(5); break;
            case 11: loom.least(); break;
            case 12: loom.setRate(true, 9); break;
            case 13: loom.move(0, 2); break;
            case 14: loom.improve(); break;
            case 15: loom.keep(0); break;
            case 16: loom.take(1); break;
            default: Looms.read(loom, "1001");
        }
    }

    private static void changesThatChangeNothing() {
        Manyshiftloom loom = Looms.two();
        loom.keep(0);
        loom.least();
        Check.same("50: least", loom.undo(), 6);
        loom.least();
        loom.improve();
        Check.same("50: improve without a move", loom.improve(), -1);
        loom.take(0);
        loom.noRest();
        loom.workers(1, 4);
        Check.same("50: they count", loom.undo(), 11);
        loom.setRate(false, 0);
        loom.setting(0, 1, 2, 0);
        loom.move(1, 1);
        Check.same("50: they count, too", loom.undo(), 11);
        Manyshiftloom cut = Looms.two();
        cut.cut(0, 1);
        Check.same("50: a cut", cut.undo(), 5);
        Check.same("50: the amount comes back", cut.orderOf(0, 1), 2);
        Manyshiftloom set = Looms.two();
        set.setting(0, 0, 1, 7);
        set.undo();
        Check.same("50: a setting", set.setting(0, 0, 1, 1), 0);
        Check.same("50: workers", set.workers(2, 1), 4);
        set.undo();
        Check.same("50: workers come back", set.workers(2, 2), 4);
        Manyshiftloom none = Looms.two();
        none.rest(0, 0, 2000);
        none.least();
        Check.same("50: least without times", none.undo(), 6);
    }

    private static void questionsAreNoChanges() {
        Manyshiftloom loom = Looms.two();
        loom.keep(0);
        told(loom);
        loom.begin(0, 0);
        loom.endOf(0);
        loom.busy(0);
        loom.workAt(0, 0);
        loom.load(0);
        loom.bound();
        loom.critical();
        loom.criticalAt(0);
        loom.weighted(0);
        loom.lateness(0);
        loom.fewestLate(0);
        loom.oneAt(0, 2, 0);
        loom.two(0, 1);
        loom.twoAt(0, 1, 0);
        loom.late();
        loom.write();
        loom.writtenAt(0);
        loom.errorPosition();
        loom.meanEnd();
        loom.use(0);
        loom.errors();
        loom.append(1, 2, 3, 4, 5);
        loom.clearTape();
        Check.same("50: the keep is the latest change", loom.undo(), 5);
        Check.raisesElement("50: it went", () -> loom.take(0));
    }

    private static void thrownAreNoChanges() {
        Manyshiftloom loom = Looms.two();
        Check.raisesArgument("50: order", () -> loom.order(9, 0, 0, 0, 0));
        Check.raisesIndex("50: work", () -> loom.work(9, 0, 1, 0));
        Check.raisesIndex("50: drop", () -> loom.drop(9));
        Check.raisesIndex("50: setAmount", () -> loom.setAmount(9, 1));
        Check.raisesArgument("50: cut", () -> loom.cut(1, 1));
        Check.raisesArgument("50: setting", () -> loom.setting(0, 0, 0, 0));
        Check.raisesArgument("50: rest", () -> loom.rest(0, 0, 0));
        Check.raisesArgument("50: workers", () -> loom.workers(0, 5));
        Check.raisesArgument("50: plan", () -> loom.plan(6));
        Check.raisesArgument("50: setRate", () -> loom.setRate(true, 1001));
        Check.raisesIndex("50: move", () -> loom.move(0, 3));
        Check.raisesArgument("50: keep", () -> loom.keep(3));
        Check.raisesElement("50: take", () -> loom.take(2));
        Check.raisesArgument("50: read", loom::read);
        Check.same("50: none of them", loom.undo(), 4);
    }

    private static void twelve() {
        Manyshiftloom loom = Looms.alike(6);
        for (int amount = 1; amount <= 9; amount++) {
            loom.setAmount(0, amount);
        }
        Check.same("50: 12 at the most", loom.undo(), 11);
        Check.same("50: the latest one first", loom.orderOf(0, 1), 8);
        loom.undo();
        loom.setAmount(0, 3);
        Check.same("50: those ahead of it still", loom.undo(), 10);
        for (int left = 9; left >= 0; left--) {
            Check.same("50: left", loom.undo(), left);
        }
        Check.same("50: not those that are older", loom.undo(), -1);
        Check.same("50: orders then", loom.orders(), 5);
        Check.same("50: works then", loom.works(), 4);
        Manyshiftloom around = Looms.alike(8);
        for (int turn = 0; turn < 40; turn++) {
            around.setAmount(turn % 8, 1 + turn % 9);
        }
        for (int turn = 39; turn > 27; turn--) {
            Check.same("50: turn " + turn, around.orderOf(turn % 8, 1), 1 + turn % 9);
            Check.same("50: left at turn " + turn, around.undo(), turn - 28);
        }
        Check.same("50: none is left", around.undo(), -1);
    }

    private static void keptAndRests() {
        Manyshiftloom loom = Looms.crossed();
        loom.keep(2);
        loom.least();
        loom.keep(2);
        Check.same("50: kept in the place of another one", loom.undo(), 8);
        Check.same("50: that one comes back", loom.take(2), 9);
        loom.rest(0, 0, 5);
        loom.noRest();
        loom.rest(0, 5, 7);
        loom.undo();
        Check.same("50: no rest again", loom.rests(0, 0) || loom.rests(0, 5), false);
        loom.undo();
        Check.same("50: the rest from before", loom.rests(0, 0) && !loom.rests(0, 5), true);
        loom.drop(0);
        loom.order(2, 9, 0, 0, 1);
        loom.undo();
        loom.undo();
        Check.same("50: the order from before", loom.orderOf(1, 1), 1);
        Check.same("50: its works", loom.workOf(1, 1, 1), 4);
    }

    private static void whatStays() {
        Manyshiftloom loom = Looms.two();
        Looms.read(loom, "100");
        Looms.tape(loom, "9");
        Check.raisesArgument("50: an error", loom::read);
        Looms.tape(loom, "01");
        loom.write();
        loom.undo();
        Check.same("50: the row goes back", Looms.row(loom), "001");
        Check.same("50: the error position stays", loom.errorPosition(), 0);
        Check.same("50: what is written stays", loom.writtenAt(0), '1');
        Check.same("50: the tape stays", loom.clearTape(), 2);
    }

    private static void checksum() {
        Check.same("51: at first", new Manyshiftloom().checksum(), 17);
        Manyshiftloom loom = Looms.two();
        int due = ((17 * 31 + 0 + 0) * 31 + 0 + 6) * 31 + 1 + 6;
        Check.same("51: orders and begins", loom.checksum(), due);
        loom.rest(0, 0, 2000);
        Check.same("51: without times", loom.checksum(), (17 * 31 * 31 + 0) * 31 + 1);
        Manyshiftloom many = Looms.alike(8);
        int sum = 17;
        for (int order = 0; order < 8; order++) {
            sum = sum * 31 + order + order;
        }
        Check.same("51: it wraps", many.checksum(), sum);
    }

    private static void meanEnd() {
        Check.same("52: without orders", new Manyshiftloom().meanEnd(), 0.0);
        Manyshiftloom loom = Looms.two();
        Check.same("52: two", loom.meanEnd(), 10.5);
        loom.order(0, 1, 4, 0, 1);
        Check.same("52: without works", loom.meanEnd(), 25.0 / 3.0);
        Manyshiftloom none = Looms.withoutTimes();
        Check.raisesState("52: no times", none::meanEnd);
    }

    private static void use() {
        Manyshiftloom loom = Looms.two();
        Check.same("53: machine 0", loom.use(0), 1.0f);
        Check.same("53: machine 1", loom.use(1), 4.0f / 11.0f);
        Check.same("53: machine 3", loom.use(3), 0.0f);
        Check.same("53: the end is 0", new Manyshiftloom().use(2), 0.0f);
        Manyshiftloom none = Looms.withoutTimes();
        for (int machine : new int[] {-1, 4}) {
            Check.raisesArgument("53: machine", () -> loom.use(machine));
            Check.raisesArgument("53: machine, no times", () -> none.use(machine));
        }
        Check.raisesState("53: no times", () -> none.use(0));
    }

    private static void errors() {
        Check.same("54: a new one", new Manyshiftloom().errors(), 0);
        Check.same("54: without times", Looms.withoutTimes().errors(), 0);
        Manyshiftloom loom = Looms.two();
        loom.setting(0, 0, 1, 5);
        loom.workers(0, 1);
        loom.rest(0, 7, 9);
        Check.same("54: with settings, rests, workers", loom.errors(), 0);
        Check.same("54: eight orders", Looms.alike(8).errors(), 0);
        Check.same("54: six orders", Looms.alike(6).errors(), 0);
    }
}
