import java.util.NoSuchElementException;
import java.util.function.Supplier;

/** All that a loom can be brought to tell, so that two looms can be held against each other. */
final class Whole {
    private Whole() {
    }

    private static void add(StringBuilder told, Supplier<Object> question) {
        Object answer;
        try {
            answer = question.get();
        } catch (IllegalArgumentException | IllegalStateException | IndexOutOfBoundsException
                | NoSuchElementException thrown) {
            answer = thrown.getClass().getSimpleName();
        }
        told.append(answer).append(' ');
    }

    /** What questions tell, but of the tape; what was written is told, nothing is written anew. */
    static String told(Manyshiftloom loom) {
        StringBuilder told = new StringBuilder();
        ordersAndWorks(told, loom);
        told.append("\nrow ").append(Looms.row(loom)).append(' ').append(loom.hasTimes()).append(' ')
                .append(loom.checksum()).append(' ').append(loom.bound()).append(' ').append(loom.errors());
        told.append("\nplan ");
        add(told, loom::end);
        add(told, loom::cost);
        add(told, loom::late);
        add(told, loom::critical);
        add(told, loom::meanEnd);
        for (int place = 0; place < 3; place++) {
            int at = place;
            add(told, () -> loom.criticalAt(at));
            add(told, () -> loom.differ(at));
            add(told, () -> loom.busy(5 * at));
            add(told, () -> loom.oneAt(0, at, 0));
            add(told, () -> loom.twoAt(0, 1, at));
        }
        machines(told, loom);
        told.append("\nwritten ");
        for (int index = 0; index < 17; index++) {
            int at = index;
            add(told, () -> loom.writtenAt(at));
        }
        return told.toString();
    }

    private static void ordersAndWorks(StringBuilder told, Manyshiftloom loom) {
        told.append("orders ").append(loom.orders()).append(" works ").append(loom.works());
        for (int number = 0; number < loom.orders(); number++) {
            int order = number;
            told.append("\n  ");
            for (int what = 0; what < 7; what++) {
                told.append(loom.orderOf(order, what)).append(' ');
            }
            add(told, () -> loom.endOf(order));
            add(told, () -> loom.without(order));
            for (int in = 0; in < loom.orderOf(order, 5); in++) {
                int work = in;
                for (int what = 0; what < 4; what++) {
                    told.append(loom.workOf(order, work, what)).append(' ');
                }
                add(told, () -> loom.begin(order, work));
            }
        }
    }

    private static void machines(StringBuilder told, Manyshiftloom loom) {
        for (int number = 0; number < 4; number++) {
            int machine = number;
            told.append("\nmachine ").append(loom.load(machine)).append(' ').append(loom.weighted(machine)).append(' ')
                    .append(loom.lateness(machine)).append(' ').append(loom.fewestLate(machine)).append(' ')
                    .append(loom.two(machine, (machine + 1) % 4)).append(' ');
            add(told, () -> loom.use(machine));
            add(told, () -> loom.workAt(machine, 8));
            for (int time = 0; time <= 2000; time += time < 60 || time > 1980 ? 1 : 60) {
                told.append(loom.rests(machine, time) ? 'r' : '-');
            }
        }
    }

    /** What no question tells, but calls that change it: the loom is another one then. */
    private static void hidden(StringBuilder told, Manyshiftloom loom) {
        told.append("\nhidden ");
        for (int slot = 0; slot < 3; slot++) {
            int at = slot;
            add(told, () -> loom.take(at));
            told.append(Looms.row(loom)).append(' ');
        }
        for (int cell = 0; cell < 64; cell++) {
            if (cell / 4 % 4 != cell % 4) {
                told.append(loom.setting(cell / 16, cell / 4 % 4, cell % 4, 0)).append(' ');
            }
        }
        for (int shift = 0; shift < 3; shift++) {
            told.append(loom.workers(shift, 4)).append(' ');
        }
        told.append(loom.setRate(true, 1)).append(' ').append(loom.setRate(false, 0)).append(' ').append(loom.noRest());
    }

    /** All but the tape and its error position: as it stands, and at each step that can be undone. */
    static String all(Supplier<Manyshiftloom> maker) {
        StringBuilder told = new StringBuilder();
        Manyshiftloom loom = maker.get();
        told.append(told(loom));
        hidden(told, loom);
        Manyshiftloom undone = maker.get();
        for (int left = undone.undo(); left != -1; left = undone.undo()) {
            told.append("\nleft ").append(left).append('\n').append(told(undone));
        }
        hidden(told, undone);
        return told.toString();
    }

    /** The tape and its error position: how much is on it, and what a read makes of it. */
    static String texts(Supplier<Manyshiftloom> maker) {
        StringBuilder told = new StringBuilder();
        told.append(maker.get().errorPosition()).append(' ').append(maker.get().clearTape()).append(' ');
        Manyshiftloom read = maker.get();
        add(told, read::read);
        told.append(read.errorPosition()).append(' ').append(Looms.row(read));
        return told.toString();
    }
}
