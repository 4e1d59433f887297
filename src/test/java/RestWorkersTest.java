/** Promises 12 to 15: rest, workers. */
public final class RestWorkersTest {
    public static void main(String[] args) {
        rest();
        restWithoutTimes();
        noRest();
        workers();
        workersByTheirNumber();
        rests();
        Check.close();
    }

    private static void rest() {
        Manyshiftloom loom = Looms.two();
        int[][] wrong = {{-1, 0, 1}, {4, 0, 1}, {0, -1, 1}, {0, 2000, 2001}, {0, 5, 5}, {0, 5, 4}, {0, 5, 2001},
            {0, Integer.MAX_VALUE, Integer.MIN_VALUE}};
        for (int[] w : wrong) {
            Check.raisesArgument("12: out of range", () -> loom.rest(w[0], w[1], w[2]));
        }
        Check.same("12: all three works begin later", loom.rest(0, 2, 4), 3);
        Check.same("12: first", loom.begin(0, 0), 4);
        Check.same("12: the gap ahead of the rest is too short", loom.rest(0, 3, 5), 3);
        Check.same("12: rests may overlap", loom.begin(0, 0), 5);
        Check.same("12: another machine's work alone", loom.rest(1, 11, 12), 1);
        Check.same("12: moved", loom.begin(0, 1), 12);
        Check.same("12: none", loom.rest(2, 0, 2000), 0);
        Check.same("12: exactly between", loom.rest(0, 16, 17), 0);
        for (int told = 5; told < 10; told++) {
            Check.same("12: greatest times", loom.rest(3, 1999, 2000), 0);
        }
        Check.raisesState("12: an eleventh", () -> loom.rest(3, 0, 1));
        Check.raisesArgument("12: a wrong eleventh", () -> loom.rest(4, 0, 1));
        Manyshiftloom moved = Looms.crossed();
        moved.move(0, 3);
        moved.rest(3, 0, 1);
        Check.same("12: the row stays", Looms.row(moved), "0110");
        Manyshiftloom fits = Looms.alike(1);
        fits.setAmount(0, 4);
        fits.rest(0, 4, 2000);
        Check.same("12: a work fits ahead of a rest", fits.begin(0, 0), 0);
        fits.setAmount(0, 5);
        Check.same("12: a longer one does not", fits.hasTimes(), false);
    }

    private static void restWithoutTimes() {
        Manyshiftloom loom = Looms.two();
        Check.same("12: no times now", loom.rest(0, 0, 2000), -1);
        Check.same("12: none", loom.hasTimes(), false);
        Check.same("12: had none", loom.rest(0, 0, 1), -1);
        Manyshiftloom late = Looms.alike(1);
        Check.same("12: ends at 2000", late.rest(0, 0, 1999), 1);
        Check.same("12: begin", late.begin(0, 0), 1999);
        Check.same("12: end", late.end(), 2000);
        Manyshiftloom longer = Looms.alike(1);
        longer.setAmount(0, 2);
        Check.same("12: would end at 2001", longer.rest(0, 0, 1999), -1);
    }

    private static void noRest() {
        Manyshiftloom loom = Looms.two();
        Check.same("13: none", loom.noRest(), 0);
        loom.rest(0, 0, 2000);
        loom.rest(1, 3, 4);
        Check.same("13: two", loom.noRest(), 2);
        Check.same("13: times again", loom.hasTimes(), true);
        Check.same("13: at work", loom.rests(1, 3), false);
        Check.same("13: none again", loom.noRest(), 0);
        for (int told = 0; told < 10; told++) {
            loom.rest(0, 0, 1);
        }
        Check.same("13: ten", loom.noRest(), 10);
    }

    private static void workers() {
        Manyshiftloom loom = new Manyshiftloom();
        int[][] wrong = {{-1, 1}, {3, 1}, {0, -1}, {0, 5}};
        for (int[] w : wrong) {
            Check.raisesArgument("14: out of range", () -> loom.workers(w[0], w[1]));
        }
        loom.order(0, 4, 5, 20, 1);
        loom.work(0, 0, 2, 0);
        Check.same("14: first shift", loom.workers(0, 0), 4);
        Check.same("14: in the second shift", loom.begin(0, 0), 8);
        Check.same("14: second shift", loom.workers(1, 0), 4);
        Check.same("14: in the third shift", loom.begin(0, 0), 16);
        Check.same("14: third shift", loom.workers(2, 0), 4);
        Check.same("14: no shift", loom.hasTimes(), false);
        Check.same("14: had none", loom.workers(0, 3), 0);
        Check.same("14: the next day", loom.begin(0, 0), 24);
        loom.setAmount(0, 5);
        Check.same("14: too long for a shift", loom.hasTimes(), false);
        loom.workers(2, 1);
        Check.same("14: over midnight", loom.begin(0, 0), 16);
        Check.same("14: how many it had", loom.workers(2, 4), 1);
    }

    private static void workersByTheirNumber() {
        Manyshiftloom loom = new Manyshiftloom();
        for (int order = 0; order < 4; order++) {
            loom.order(0, 2, 0, 0, 1);
            loom.work(order, order, 1, -1);
        }
        Check.same("14: four at once", loom.busy(0), 4);
        loom.workers(0, 3);
        Check.same("14: three at once", loom.busy(0), 3);
        Check.same("14: the last one waits", loom.begin(3, 0), 2);
        loom.workers(0, 1);
        Check.same("14: one at once", loom.end(), 8);
        loom.setAmount(3, 5);
        Check.same("14: begins ahead of the second shift", loom.begin(3, 0), 6);
        loom.setAmount(2, 1);
        Check.same("14: the others one by one", loom.begin(2, 0), 4);
        loom.move(3, 0);
        Check.same("14: by the row", loom.begin(0, 0), 5);
        loom.workers(0, 4);
        Check.same("14: all again", loom.begin(0, 0), 0);
        Manyshiftloom ones = new Manyshiftloom();
        for (int order = 0; order < 3; order++) {
            ones.order(0, 1, 0, 0, 1);
            ones.work(order, order, 1, -1);
        }
        ones.workers(0, 1);
        for (int order = 0; order < 3; order++) {
            Check.same("14: the time 0 counts", ones.begin(order, 0), order);
        }
    }

    private static void rests() {
        Manyshiftloom loom = new Manyshiftloom();
        loom.rest(1, 5, 7);
        loom.rest(2, 1999, 2000);
        boolean[] due = {false, true, true, false};
        for (int time = 4; time < 8; time++) {
            Check.same("15: at " + time, loom.rests(1, time), due[time - 4]);
            Check.same("15: another machine", loom.rests(0, time), false);
        }
        Check.same("15: the last time", loom.rests(2, 1999), true);
        Check.same("15: 2000", loom.rests(2, 2000), false);
        int[][] wrong = {{-1, 0}, {4, 0}, {0, -1}, {0, 2001}};
        for (int[] w : wrong) {
            Check.raisesArgument("15: out of range", () -> loom.rests(w[0], w[1]));
        }
    }
}
