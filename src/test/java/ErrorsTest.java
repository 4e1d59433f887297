import java.lang.reflect.Field;
import java.lang.reflect.Method;

/**
 * Promise 54: a loom that keeps to the document always answers 0, so that what errors() holds against it shows only
 * when it is put wrong from outside, here by reflection; and that what it finds by all orders is the best of them.
 */
public final class ErrorsTest {
    public static void main(String[] args) throws ReflectiveOperationException {
        overlapOnMachine();
        overlapWithTool();
        rest();
        orderAhead();
        workers();
        bound();
        ends();
        critical();
        bestOfAllOrders();
        Check.close();
    }

    private static Object inside(Object of, String name) throws ReflectiveOperationException {
        Field field = of.getClass().getDeclaredField(name);
        field.setAccessible(true);
        return field.get(of);
    }

    private static int[] cells(Manyshiftloom loom, String part, String name) throws ReflectiveOperationException {
        return (int[]) inside(inside(loom, part), name);
    }

    /** The work at a place begins earlier or later than it does by the document, and ends as much earlier or later. */
    private static void shift(Manyshiftloom loom, int place, int by) throws ReflectiveOperationException {
        cells(loom, "present", "begins")[place] += by;
        cells(loom, "present", "finishes")[place] += by;
    }

    private static void overlapOnMachine() throws ReflectiveOperationException {
        Manyshiftloom loom = Looms.two();
        loom.work(1, 2, 9, -1);
        shift(loom, 2, -1);
        Check.same("54: works that overlap with another one of their machine", loom.errors(), 2);
        shift(loom, 2, 1);
        Check.same("54: one ends as the other begins", loom.errors(), 0);
    }

    private static void overlapWithTool() throws ReflectiveOperationException {
        Manyshiftloom loom = new Manyshiftloom();
        for (int order = 0; order < 2; order++) {
            loom.order(0, 1, 0, 0, 1);
            loom.work(order, order, 3, order == 0 ? 1 : 2);
        }
        Check.same("54: other tools may overlap", loom.errors(), 0);
        cells(loom, "present", "toolAt")[1] = 1;
        Check.same("54: works that overlap with another one of their tool", loom.errors(), 2);
        cells(loom, "present", "toolAt")[0] = -1;
        cells(loom, "present", "toolAt")[1] = -1;
        Check.same("54: those without a tool may overlap", loom.errors(), 0);
    }

    private static void rest() throws ReflectiveOperationException {
        Manyshiftloom loom = Looms.alike(2);
        loom.rest(0, 2, 3);
        Check.same("54: it rests as they end", loom.errors(), 0);
        cells(loom, "shop", "restCells")[1] = 1;
        Check.same("54: a work at a time of rest", loom.errors(), 1);
    }

    private static void orderAhead() throws ReflectiveOperationException {
        Manyshiftloom loom = Looms.two();
        shift(loom, 1, -1);
        Check.same("54: it begins ahead of the end of the one ahead of it in the order", loom.errors(), 1);
    }

    private static void workers() throws ReflectiveOperationException {
        Manyshiftloom loom = Looms.two();
        int[] shifts = cells(loom, "shop", "shifts");
        shifts[0] = 1;
        Check.same("54: two works, one worker, at the times 6 and 7", loom.errors(), 2);
        shifts[0] = 0;
        Check.same("54: no worker, at the times 0 to 7", loom.errors(), 8);
        shifts[1] = 0;
        Check.same("54: nor up to 10", loom.errors(), 11);
        shifts[2] = 0;
        Check.same("54: the others are not needed", loom.errors(), 11);
    }

    private static void bound() throws ReflectiveOperationException {
        Manyshiftloom loom = Looms.single(3, 0, 5);
        shift(loom, 0, -1);
        Check.same("54: its end is below the bound", loom.errors(), 1);
        shift(loom, 0, -2);
        Check.same("54: that counts once", loom.errors(), 1);
        shift(loom, 0, 4);
        Check.same("54: above the bound", loom.errors(), 0);
    }

    /** Without times nothing of the plan counts, whatever the times were. */
    private static void ends() throws ReflectiveOperationException {
        Manyshiftloom loom = Looms.gap();
        shift(loom, 0, -3);
        Check.same("54: the present plan has no times", loom.errors(), 0);
    }

    /** Three works that share nothing; each begins as the one ahead of it in the row ends. */
    private static Manyshiftloom chain(int tool) {
        Manyshiftloom loom = new Manyshiftloom();
        for (int order = 0; order < 3; order++) {
            loom.order(0, 1, 3 * order, 0, 1);
            loom.work(order, order, 3, order == 1 ? tool : -1);
        }
        return loom;
    }

    private static void critical() throws ReflectiveOperationException {
        for (String way : new String[] {"orderBefore", "machineBefore", "toolBefore"}) {
            Manyshiftloom loom = chain(2);
            Check.same("54: only the first one is critical", loom.critical(), 1);
            cells(loom, "present", way)[2] = 1;
            Check.same("54: a critical work that does not begin as is told, " + way, loom.errors(), 1);
            cells(loom, "present", way)[1] = 0;
            Check.same("54: two of three", loom.errors(), 2);
            cells(loom, "present", way)[2] = -1;
            Check.same("54: the last one alone is critical again", loom.errors(), 0);
        }
        Manyshiftloom none = chain(-1);
        cells(none, "present", "toolBefore")[2] = 1;
        Check.same("54: NONE is no tool that is shared", none.errors(), 1);
        cells(none, "present", "toolAt")[2] = 1;
        cells(none, "present", "toolAt")[1] = 1;
        Check.same("54: now it begins as its tool is free", none.errors(), 0);
    }

    /** A method of a part of the loom, found by its name alone. */
    private static Object call(Object on, String name, Object... arguments) throws ReflectiveOperationException {
        for (Method method : on.getClass().getDeclaredMethods()) {
            if (method.getName().equals(name)) {
                method.setAccessible(true);
                return method.invoke(on, arguments);
            }
        }
        throw new NoSuchMethodException(name);
    }

    /** What is told is the best, so that the best of all orders must be the same, not only no lesser. */
    private static void bestOfAllOrders() throws ReflectiveOperationException {
        for (int turn = 0; turn < 60; turn++) {
            Manyshiftloom loom = new Manyshiftloom();
            int orders = turn % 7;
            for (int order = 0; order < orders; order++) {
                loom.order(0, 1, 0, (turn * 5 + order * 7) % 23, 1 + (turn * 3 + order * order) % 9);
                loom.work(order, 0, 1 + (turn + order * 4) % 9, -1);
                if ((turn + order) % 3 != 0) {
                    loom.work(order, 1, 1 + (turn * 2 + order * 5) % 9, -1);
                }
            }
            Object shop = inside(loom, "shop");
            Object theorem = inside(loom, "theorem");
            Object one = inside(loom, "one");
            int[] told = {loom.weighted(0), loom.lateness(0), loom.fewestLate(0)};
            for (int way = 0; way < 3 && orders > 0; way++) {
                call(one, "arrange", shop, 0, way);
                Check.same("54: the best of " + orders, call(theorem, "bestOfOne", shop, one, way), told[way]);
            }
            Check.same("54: two machines", loom.two(0, 1), call(theorem, "bestOfTwo", inside(loom, "pair")));
            Check.same("54: none is better", loom.errors(), 0);
        }
    }
}
