import java.lang.reflect.InvocationTargetException;
import java.lang.reflect.Method;
import java.util.Arrays;

/** Random runs, the same ones each time, on the class and on the plain loom: every answer must be the same. */
public final class RandomRunsTest {
    private static final int RUNS = 800;
    private static final int CALLS = 200;

    private static final String[] SET_UP = {"order", "work", "work", "work", "setting", "rest", "workers"};
    private static final String[] ALL = {
        "order", "work", "work", "drop", "setAmount", "cut", "orderOf", "workOf", "orders", "works", "setting",
        "rest", "noRest", "workers", "rests", "plan", "plan", "rowAt", "hasTimes", "begin", "begin", "endOf", "end",
        "busy", "workAt", "load", "bound", "least", "critical", "criticalAt", "weighted", "lateness", "fewestLate",
        "oneAt", "two", "twoAt", "setRate", "cost", "late", "move", "move", "improve", "improve", "without", "keep",
        "take", "differ", "append", "clearTape", "read", "errorPosition", "write", "writtenAt", "undo", "undo",
        "checksum", "meanEnd", "use", "errors", "text", "text",
    };

    private final Manyshiftloom loom = new Manyshiftloom();
    private final PlainLoom plain = new PlainLoom();
    private final StringBuilder told = new StringBuilder();
    private long seed;
    private boolean isSmall;

    private RandomRunsTest(long seed) {
        this.seed = seed * 7919 + 13;
    }

    public static void main(String[] args) {
        // Other runs than those of each time: java RandomRunsTest 800 10000
        int first = args.length > 0 ? Integer.parseInt(args[0]) : 0;
        int behind = args.length > 1 ? Integer.parseInt(args[1]) : RUNS;
        for (int run = first; run < behind; run++) {
            new RandomRunsTest(run).run(run);
        }
        Check.close();
    }

    private int below(int limit) {
        seed = seed * 6364136223846793005L + 1442695040888963407L;
        return (int) ((seed >>> 33) % limit);
    }

    private void run(int run) {
        isSmall = run % 3 != 0;
        int setUp = 6 + below(24);
        boolean holds = true;
        for (int call = 0; call < CALLS && holds; call++) {
            String name = call < setUp ? SET_UP[below(SET_UP.length)] : ALL[below(ALL.length)];
            holds = name.equals("text") ? tellText() : tell(name);
            holds = holds && tell("checksum") && tell("hasTimes");
            if (call == setUp + 3 || call == CALLS - 1) {
                holds = holds && askAll();
            }
        }
        Check.note(holds, "run " + run + " of\n" + (holds ? "" : told));
    }

    /** Every question, with every number that it can bear. */
    private boolean askAll() {
        boolean holds = true;
        for (String name : new String[] {"end", "bound", "critical", "cost", "late", "meanEnd", "errors", "write"}) {
            holds &= tell(name);
        }
        for (int machine = 0; machine < 4; machine++) {
            for (String name : new String[] {"load", "weighted", "lateness", "fewestLate", "use"}) {
                holds &= tell(name, machine);
            }
            for (int place = 0; place < plain.orders(); place++) {
                holds &= tell("oneAt", machine, 0, place) && tell("oneAt", machine, 1, place)
                        && tell("oneAt", machine, 2, place);
            }
            for (int other = 0; other < 4; other++) {
                holds &= tell("two", machine, other);
                holds &= tell("twoAt", machine, other, below(plain.orders() + 1));
                holds &= tell("workAt", machine, time()) && tell("rests", machine, time());
            }
        }
        for (int order = 0; order < plain.orders(); order++) {
            holds &= tell("endOf", order) && tell("without", order) && tell("orderOf", order, 6);
            for (int work = 0; work < plain.orderOf(order, 5); work++) {
                holds &= tell("begin", order, work) && tell("workOf", order, work, 3);
            }
        }
        for (int place = 0; place <= plain.works() && plain.hasTimes(); place++) {
            holds &= tell("criticalAt", place) && tell("writtenAt", place);
        }
        return holds;
    }

    /** A row on the tape, mostly one that fits, with blanks. */
    private boolean tellText() {
        int works = plain.works();
        int[] four = new int[20];
        int length = 0;
        int[] row = new int[works];
        for (int place = 0; place < works; place++) {
            row[place] = plain.rowAt(place);
        }
        for (int place = works - 1; place > 0; place--) {
            int other = below(place + 1);
            int order = row[place];
            row[place] = row[other];
            row[other] = order;
        }
        for (int place = 0; place < works && length < 20; place++) {
            if (below(12) == 0) {
                four[length++] = below(2) == 0 ? 32 : 10;
            }
            if (length < 20) {
                four[length++] = below(60) == 0 ? below(256) : '0' + row[place];
            }
        }
        Object[] ints = new Object[5];
        for (int i = 0; i < 5; i++) {
            ints[i] = four[4 * i] << 24 | four[4 * i + 1] << 16 | four[4 * i + 2] << 8 | four[4 * i + 3];
        }
        return tell("append", ints) && tell("read") && tell("errorPosition");
    }

    private boolean tell(String name) {
        return tell(name, arguments(name));
    }

    private boolean tell(String name, Object... arguments) {
        if (name.equals("least") && below(3) != 0 && plain.works() == 8) {
            return true;
        }
        String got = answer(loom, Manyshiftloom.class, name, arguments);
        String due = answer(plain, PlainLoom.class, name, arguments);
        told.append(name).append(Arrays.toString(arguments)).append(" -> ").append(got);
        if (!got.equals(due)) {
            told.append(", due is ").append(due);
        }
        told.append('\n');
        return got.equals(due);
    }

    private static String answer(Object on, Class<?> type, String name, Object[] arguments) {
        for (Method method : type.getDeclaredMethods()) {
            if (method.getName().equals(name) && java.lang.reflect.Modifier.isPublic(method.getModifiers())) {
                try {
                    return String.valueOf(method.invoke(on, arguments));
                } catch (InvocationTargetException thrown) {
                    return thrown.getCause().getClass().getName();
                } catch (IllegalAccessException thrown) {
                    return thrown.toString();
                }
            }
        }
        return "no method " + name;
    }

    private int number(int low, int high) {
        if (below(40) == 0) {
            int[] odd = {low - 1, high + 1, Integer.MIN_VALUE, Integer.MAX_VALUE, -1, low, high};
            return odd[below(odd.length)];
        }
        return low + below(Math.max(1, high - low + 1));
    }

    private int order() {
        return number(0, plain.orders() - 1);
    }

    private int place() {
        return number(0, plain.works() - 1);
    }

    private int time() {
        return below(3) == 0 ? number(0, 2000) : number(0, isSmall ? 60 : 400);
    }

    private Object[] arguments(String name) {
        switch (name) {
            case "order":
                return new Object[] {number(0, isSmall ? 1 : 3), number(1, isSmall ? 3 : 9), number(0, isSmall ? 6 : 200),
                    number(0, isSmall ? 24 : 500), number(1, isSmall ? 3 : 9)};
            case "work":
                return new Object[] {order(), number(0, isSmall ? 2 : 3), number(1, isSmall ? 4 : 9), number(-1, 2)};
            case "drop":
                // Dropped seldom, so that the looms are not empty most of the time.
                return new Object[] {below(2) == 0 ? -1 : order()};
            case "setAmount":
                return new Object[] {order(), number(1, isSmall ? 3 : 9)};
            case "cut":
                return new Object[] {order(), number(1, 4)};
            case "orderOf":
                return new Object[] {order(), number(0, 6)};
            case "workOf":
                return new Object[] {order(), number(0, 3), number(0, 3)};
            case "setting":
                return new Object[] {number(0, 3), number(0, isSmall ? 1 : 3), number(0, isSmall ? 1 : 3),
                    number(0, isSmall ? 4 : 20)};
            case "rest":
                return restArguments();
            case "workers":
                return new Object[] {number(0, 2), below(3) == 0 ? number(0, 4) : number(1, 3)};
            case "rests":
            case "workAt":
                return new Object[] {number(0, 3), time()};
            case "plan":
                return new Object[] {number(0, 5)};
            case "rowAt":
                return new Object[] {place()};
            case "begin":
                return new Object[] {order(), number(0, 3)};
            case "endOf":
            case "without":
                return new Object[] {order()};
            case "busy":
                return new Object[] {time()};
            case "load":
            case "weighted":
            case "lateness":
            case "fewestLate":
            case "use":
                return new Object[] {number(0, 3)};
            case "criticalAt":
                return new Object[] {number(0, 5)};
            case "oneAt":
                return new Object[] {number(0, 3), number(0, 2), number(0, 4)};
            case "two":
                return new Object[] {number(0, 3), number(0, 3)};
            case "twoAt":
                return new Object[] {number(0, 3), number(0, 3), number(0, 4)};
            case "setRate":
                return new Object[] {below(2) == 0, number(0, below(2) == 0 ? 5 : 1000)};
            case "move":
                return new Object[] {place(), place()};
            case "keep":
            case "take":
            case "differ":
                return new Object[] {number(0, 2)};
            case "append":
                return new Object[] {number(0x20303132, 0x3132330a), number(0, 255) << 16, 0, number(0, 1) * -1, 0};
            case "writtenAt":
                return new Object[] {number(0, 15)};
            default:
                return new Object[0];
        }
    }

    private Object[] restArguments() {
        int from = time();
        int to = below(4) == 0 ? number(from + 1, 2000) : from + 1 + below(30);
        return new Object[] {number(0, 3), from, to};
    }
}
