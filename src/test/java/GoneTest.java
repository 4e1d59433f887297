/**
 * Promises 4, 6 and 50: what went leaves no trace. A loom whose orders or works went, or whose calls were undone, tells
 * the same as one that never had them: at once, behind each change, and when others come in their places.
 */
public final class GoneTest {
    public static void main(String[] args) {
        dropped();
        droppedAll();
        replaced();
        undone();
        cutAndUndone();
        shorterRows();
        leastBehindADrop();
        boundBehindADrop();
        Check.close();
    }

    /** An order that would show wherever it were counted once more: late, heavy, with works on all machines. */
    private static void addHeavy(Manyshiftloom loom, int works) {
        int order = loom.order(3, 9, 200, 0, 9);
        for (int work = 0; work < works; work++) {
            loom.work(order, (work + 1) % 4, 9, work % 3);
        }
    }

    private static void addLight(Manyshiftloom loom, int number) {
        int order = loom.order(number % 2, 1 + number % 3, number, 9 + 5 * number, 1 + number);
        loom.work(order, number % 3, 2 + number, number % 2 - 1);
        loom.work(order, (number + 1) % 3, 3, -1);
    }

    /** Order by order as the letters tell: a light one by its digit, "h" a heavy one, "e" one without works. */
    private static Manyshiftloom loomOf(String letters) {
        Manyshiftloom loom = new Manyshiftloom();
        loom.setRate(true, 7);
        loom.setRate(false, 2);
        loom.setting(0, 0, 1, 3);
        loom.setting(1, 3, 0, 20);
        add(loom, letters);
        return loom;
    }

    private static void add(Manyshiftloom loom, String letters) {
        for (int at = 0; at < letters.length(); at++) {
            char letter = letters.charAt(at);
            if (letter == 'h') {
                addHeavy(loom, 4);
            } else if (letter == 'e') {
                loom.order(2, 1, 0, 500, 1);
            } else {
                addLight(loom, letter - '0');
            }
        }
    }

    private static void drop(Manyshiftloom loom, int... orders) {
        for (int order : orders) {
            loom.drop(order);
        }
    }

    /** A change, or what questions tell, by its number; what it answers. */
    private static Object step(Manyshiftloom loom, int number) {
        switch (number) {
            case 0: case 1: case 2: case 3: case 4: case 5:
                return loom.plan(number);
            case 6:
                return loom.works() <= 8 ? loom.least() : -2;
            case 7:
                return loom.improve();
            case 8:
                return loom.works() > 1 && loom.move(0, loom.works() - 1);
            case 9:
                return loom.improve();
            case 10:
                return loom.keep(1);
            case 11:
                return loom.works() > 1 && loom.move(loom.works() - 1, 0);
            case 12:
                return loom.differ(1);
            case 13:
                return loom.rest(0, 2, 5);
            case 14:
                return loom.workers(0, 1);
            case 15:
                return loom.plan(3);
            case 16:
                return loom.write();
            case 17:
                return loom.take(1);
            case 18:
                return Looms.read(loom, Looms.row(loom));
            default:
                return loom.works() <= 8 ? loom.least() : loom.noRest();
        }
    }

    private static void sameAs(String what, Manyshiftloom gone, Manyshiftloom fresh) {
        Check.same(what, Whole.told(gone), Whole.told(fresh));
        for (int number = 0; number < 20; number++) {
            int at = number;
            Edge.answers(what + ", step " + number, gone, step(fresh, number), loom -> step(loom, at));
            Check.same(what + ", behind step " + number, Whole.told(gone), Whole.told(fresh));
            for (int place = 0; place < 8; place++) {
                Check.same(what + ", one machine", oneAndTwo(gone, place), oneAndTwo(fresh, place));
            }
        }
    }

    private static String oneAndTwo(Manyshiftloom loom, int place) {
        StringBuilder told = new StringBuilder();
        for (int first = 0; first < 4; first++) {
            for (int way = 0; way < 3; way++) {
                told.append(orElse(loom, first, way, place, false)).append(' ');
            }
            for (int second = 0; second < 4; second++) {
                told.append(orElse(loom, first, second, place, true)).append(' ');
            }
        }
        return told.toString();
    }

    private static int orElse(Manyshiftloom loom, int first, int other, int place, boolean isPair) {
        try {
            return isPair ? loom.twoAt(first, other, place) : loom.oneAt(first, other, place);
        } catch (IllegalArgumentException | IndexOutOfBoundsException thrown) {
            return -1;
        }
    }

    private static void dropped() {
        Manyshiftloom last = loomOf("012h");
        drop(last, 3);
        sameAs("4: the last one goes", last, loomOf("012"));
        Manyshiftloom first = loomOf("h012");
        drop(first, 0);
        sameAs("4: the first one goes", first, loomOf("012"));
        Manyshiftloom middle = loomOf("0h1h2");
        drop(middle, 3, 1);
        sameAs("4: two between others go", middle, loomOf("012"));
        Manyshiftloom eight = loomOf("heh0hee1");
        drop(eight, 4, 2, 0);
        sameAs("4: of eight", eight, loomOf("e0ee1"));
        Manyshiftloom bare = loomOf("0eeehee");
        drop(bare, 4);
        sameAs("4: among some without works", bare, loomOf("0eeeee"));
    }

    private static void droppedAll() {
        Manyshiftloom all = loomOf("hhhh");
        drop(all, 0, 0, 0, 0);
        Check.same("4: of all, nothing is left", Whole.told(all), Whole.told(loomOf("")));
        Manyshiftloom late = loomOf("eeh");
        drop(late, 2);
        sameAs("4: only those without works are left", late, loomOf("ee"));
    }

    /** Others come in the places of those that went. */
    private static void replaced() {
        Manyshiftloom bare = loomOf("hhh");
        drop(bare, 2, 1, 0);
        add(bare, "eee");
        sameAs("2: without works, where one with works was", bare, loomOf("eee"));
        Manyshiftloom light = loomOf("hhhh");
        drop(light, 0, 0, 0, 0);
        add(light, "0e12");
        sameAs("3: other works in the places of those that went", light, loomOf("0e12"));
        Manyshiftloom again = loomOf("0h1h");
        drop(again, 1, 2);
        add(again, "2e");
        sameAs("2: behind those that are left", again, loomOf("012e"));
    }

    private static void undone() {
        Manyshiftloom loom = loomOf("012");
        addHeavy(loom, 4);
        for (int turn = 0; turn < 5; turn++) {
            loom.undo();
        }
        sameAs("50: an order and its works, undone", loom, loomOf("012"));
        Manyshiftloom work = loomOf("01e");
        work.work(2, 3, 9, 2);
        work.work(2, 0, 9, 1);
        work.undo();
        work.undo();
        sameAs("50: works, undone", work, loomOf("01e"));
        Manyshiftloom dropped = loomOf("0h1");
        dropped.drop(0);
        dropped.undo();
        dropped.drop(1);
        sameAs("50: a drop, undone", dropped, loomOf("01"));
    }

    private static void cutAndUndone() {
        Manyshiftloom loom = loomOf("2");
        loom.cut(0, 1);
        loom.drop(1);
        loom.setAmount(0, 3);
        sameAs("6: the lot goes", loom, loomOf("2"));
        Manyshiftloom undone = loomOf("02");
        undone.cut(1, 2);
        undone.undo();
        sameAs("50: a cut, undone", undone, loomOf("02"));
    }

    /** A row that is shorter than the one ahead of it: the places behind it count no more. */
    private static void shorterRows() {
        Manyshiftloom loom = loomOf("hhhh");
        for (int rule = 0; rule < 6; rule++) {
            loom.plan(rule);
            loom.errors();
        }
        loom.keep(1);
        loom.move(0, 15);
        loom.write();
        for (int order = 3; order >= 0; order--) {
            loom.without(order);
            loom.drop(order);
        }
        add(loom, "10");
        loom.write();
        Manyshiftloom fresh = loomOf("10");
        fresh.write();
        sameAs("4: a shorter row", loom, fresh);
    }

    /** The one that went could begin earlier than those that are left, and has nothing behind it. */
    private static void boundBehindADrop() {
        Manyshiftloom loom = new Manyshiftloom();
        for (int order = 0; order < 2; order++) {
            loom.order(0, 1, 50, 0, 1);
            loom.work(order, 0, 5 + order, -1);
            loom.work(order, 1, 3, -1);
        }
        loom.order(0, 1, 0, 0, 1);
        loom.work(2, 0, 1, -1);
        Check.same("25: with it, the other machine is the longest", loom.bound(), 55 + 3 + 3);
        loom.drop(2);
        Check.same("25: without it", loom.bound(), 50 + 5 + 6 + 3);
    }

    /** The one that went would end earlier than the one that is left, which can't reach the bound. */
    private static void leastBehindADrop() {
        Manyshiftloom loom = Looms.single(0, 0, 5);
        loom.order(0, 1, 0, 0, 1);
        loom.work(1, 1, 1, -1);
        loom.rest(0, 2, 4);
        loom.drop(1);
        Check.same("26: of those that are left", loom.least(), 9);
        Check.same("26: its row", Looms.row(loom), "0");
    }
}
