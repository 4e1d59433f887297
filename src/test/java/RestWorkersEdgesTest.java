import java.util.function.Supplier;

/** Promises 12 to 15 at their edges: each sentence of the document that names one has a test of its own. */
public final class RestWorkersEdgesTest {
    private static final Supplier<Manyshiftloom> RICH = Looms::rich;
    private static final Supplier<Manyshiftloom> TEN = Looms::tenRests;

    public static void main(String[] args) {
        rest();
        restWhen10AreTold();
        restAnswers();
        restThatGivesTimes();
        restEnds();
        noRest();
        workers();
        workersByShift();
        workersWrapAround();
        oneWorkerInAllOfItsTime();
        workersLeft();
        workersAheadAndBehind();
        workersOfTwoShifts();
        workersOfTheLastTime();
        rests();
        restsEnds();
        Check.close();
    }

    private static void rest() {
        Edge.within("12: machine: 0 to 3", RICH, 0, 3, Edge.ARGUMENT, (loom, n) -> loom.rest(n, 5, 6));
        Edge.within("12: from: 0 to 1999", RICH, 0, 1999, Edge.ARGUMENT, (loom, n) -> loom.rest(0, n, 2000));
        Edge.within("12: to: from 1 on", RICH, 1, 2000, Edge.ARGUMENT, (loom, n) -> loom.rest(0, 0, n));
        Edge.within("12: to: from + 1 to 2000", RICH, 501, 2000, Edge.ARGUMENT, (loom, n) -> loom.rest(0, 500, n));
        Edge.within("12: to: 2000 alone", RICH, 2000, 2000, Edge.ARGUMENT, (loom, n) -> loom.rest(0, 1999, n));
        Edge.refuses("12: from 2000", RICH, Edge.ARGUMENT, loom -> loom.rest(0, 2000, 2001));
        Edge.refuses("12: from the greatest, to the least", RICH, Edge.ARGUMENT,
                loom -> loom.rest(0, Integer.MAX_VALUE, Integer.MIN_VALUE));
        Edge.refuses("12: from -1", RICH, Edge.ARGUMENT, loom -> loom.rest(0, -1, 0));
    }

    private static void restWhen10AreTold() {
        Edge.refuses("12: if 10 are told", TEN, Edge.STATE, loom -> loom.rest(0, 0, 1));
        Edge.refuses("12: if 10 are told, of another machine", TEN, Edge.STATE, loom -> loom.rest(3, 1999, 2000));
        Edge.refuses("12: the machine ahead of 10", TEN, Edge.ARGUMENT, loom -> loom.rest(4, 0, 1));
        Edge.refuses("12: from ahead of 10", TEN, Edge.ARGUMENT, loom -> loom.rest(0, -1, 1));
        Edge.refuses("12: to ahead of 10", TEN, Edge.ARGUMENT, loom -> loom.rest(0, 1, 1));
        Manyshiftloom loom = Looms.tenRests();
        loom.undo();
        Check.same("12: 9 are told, so a tenth can come", loom.rest(2, 100, 101), 0);
        Check.raisesState("12: not one more", () -> loom.rest(2, 100, 101));
        Manyshiftloom alike = new Manyshiftloom();
        for (int told = 0; told < 10; told++) {
            alike.rest(0, 0, 1);
        }
        Check.raisesState("12: those that are alike count, too", () -> alike.rest(0, 0, 1));
    }

    /** "Returns how many works of the present plan begin at another time by this; NONE if [...]". */
    private static void restAnswers() {
        Edge.answers("12: without works", new Manyshiftloom(), 0, loom -> loom.rest(0, 0, 1));
        Edge.answers("12: none begins at another time", Looms.alike(8), 0, loom -> loom.rest(0, 8, 9));
        Edge.answers("12: the last one alone", Looms.alike(8), 1, loom -> loom.rest(0, 7, 8));
        Edge.answers("12: all of 8", Looms.alike(8), 8, loom -> loom.rest(0, 0, 1));
        Manyshiftloom all = new Manyshiftloom();
        for (int order = 0; order < 4; order++) {
            all.order(0, 1, 0, 0, 1);
            for (int count = 0; count < 4; count++) {
                all.work(order, 0, 1, -1);
            }
        }
        Edge.answers("12: all of 16", all, 16, loom -> loom.rest(0, 0, 1));
        Edge.answers("12: no times now", Looms.alike(1), -1, loom -> loom.rest(0, 0, 2000));
        Manyshiftloom none = Looms.withoutTimes();
        Edge.answers("12: had none", none, -1, loom -> loom.rest(3, 0, 1));
        Check.same("12: it is told all the same", none.noRest(), 1);
    }

    /** Order 1 has the times 0 to 1 alone: it needs the worker that order 0 takes, until a rest puts that one off. */
    private static void restThatGivesTimes() {
        Manyshiftloom loom = Looms.alike(2);
        loom.order(0, 1, 0, 0, 1);
        loom.work(2, 1, 2, -1);
        loom.rest(1, 2, 2000);
        for (int shift = 0; shift < 3; shift++) {
            loom.workers(shift, 1);
        }
        Check.same("12: no times at first", loom.hasTimes(), false);
        Check.same("12: it had none", loom.rest(0, 0, 2), -1);
        Check.same("12: it has times now", loom.hasTimes(), true);
        Check.same("12: none of them is another", loom.rest(0, 4, 5), 0);
    }

    /** A work of 3 times beside a rest from 10 to 20. */
    private static int beginBeside(int release) {
        Manyshiftloom loom = Looms.single(release, 0, 3);
        loom.rest(0, 10, 20);
        return loom.begin(0, 0);
    }

    /** "from: [...] the first time; to: [...] the time at which it goes on". */
    private static void restEnds() {
        Check.same("12: it ends as the rest begins", beginBeside(7), 7);
        Check.same("12: it would run into the rest", beginBeside(8), 20);
        Check.same("12: in the rest", beginBeside(19), 20);
        Check.same("12: as the machine goes on", beginBeside(20), 20);
        Check.same("12: behind the rest", beginBeside(21), 21);
        Manyshiftloom between = Looms.single(0, 0, 3);
        between.rest(0, 0, 4);
        between.rest(0, 7, 9);
        Check.same("12: just between two rests", between.begin(0, 0), 4);
        between.rest(0, 6, 7);
        Check.same("12: the gap is too small", between.begin(0, 0), 9);
        Manyshiftloom latest = Looms.single(0, 0, 2);
        latest.rest(0, 0, 1998);
        Check.same("12: it ends at 2000", latest.end(), 2000);
        latest.rest(0, 0, 1999);
        Check.same("12: it would end at 2001", latest.hasTimes(), false);
        Check.same("12: another machine's rest", restOfAnother(), 0);
    }

    private static int restOfAnother() {
        Manyshiftloom loom = Looms.single(0, 0, 1);
        for (int machine = 1; machine < 4; machine++) {
            loom.rest(machine, 0, 2000);
        }
        return loom.begin(0, 0);
    }

    private static void noRest() {
        Edge.answers("13: none was told", new Manyshiftloom(), 0, Manyshiftloom::noRest);
        Edge.answers("13: 10 were told", Looms.tenRests(), 10, Manyshiftloom::noRest);
        Manyshiftloom loom = Looms.tenRests();
        loom.noRest();
        Check.same("13: all are forgotten", loom.noRest(), 0);
        Check.same("13: the works begin as without", loom.begin(0, 0), 0);
        for (int machine = 0; machine < 4; machine++) {
            for (int time = 0; time < 12; time++) {
                Check.same("13: no machine rests", loom.rests(machine, time), false);
            }
        }
        for (int told = 0; told < 10; told++) {
            Check.same("13: 10 can be told again", loom.rest(3, 0, 1), 0);
        }
        Check.raisesState("13: but 10 alone", () -> loom.rest(3, 0, 1));
    }

    private static void workers() {
        Edge.within("14: shift: 0 to 2", RICH, 0, 2, Edge.ARGUMENT, (loom, n) -> loom.workers(n, 1));
        Edge.within("14: workers: 0 to 4", RICH, 0, 4, Edge.ARGUMENT, (loom, n) -> loom.workers(0, n));
        for (int shift = 0; shift < 3; shift++) {
            Manyshiftloom loom = new Manyshiftloom();
            Check.same("14: 4 at first", loom.workers(shift, 0), 4);
            Check.same("14: none", loom.workers(shift, 4), 0);
            Check.same("14: the others as at first", loom.workers((shift + 1) % 3, 1), 4);
            Check.same("14: 4 again", loom.workers(shift, 3), 4);
        }
    }

    /** When a work of one time, released at that time, begins, if one shift has no workers. */
    private static int beginWithout(int shift, int release) {
        Manyshiftloom loom = Looms.single(release, 0, 1);
        loom.workers(shift, 0);
        return loom.begin(0, 0);
    }

    /** "the shift at the time t is (t modulo 24) divided by 8, rounded down". */
    private static void workersByShift() {
        int[][] due = {
            {0, 0, 8}, {0, 7, 8}, {0, 8, 8}, {0, 23, 23}, {0, 24, 32}, {0, 31, 32}, {0, 192, 200},
            {1, 0, 0}, {1, 7, 7}, {1, 8, 16}, {1, 15, 16}, {1, 16, 16}, {1, 31, 31}, {1, 32, 40}, {1, 200, 208},
            {2, 0, 0}, {2, 15, 15}, {2, 16, 24}, {2, 23, 24}, {2, 24, 24}, {2, 40, 48}, {2, 191, 192},
        };
        for (int[] d : due) {
            Check.same("14: without shift " + d[0] + " from " + d[1] + " on", beginWithout(d[0], d[1]), d[2]);
        }
    }

    /** The last day, from 1992 on, ends in its first shift: 2000 modulo 24 is 8. */
    private static void workersWrapAround() {
        Manyshiftloom loom = Looms.single(0, 0, 8);
        loom.rest(0, 0, 1985);
        Check.same("14: from the last day but one on", loom.begin(0, 0), 1985);
        loom.workers(2, 0);
        Check.same("14: the first shift of the last day", loom.begin(0, 0), 1992);
        Check.same("14: it ends with the last time", loom.end(), 2000);
        loom.workers(1, 0);
        Check.same("14: no other shift is needed", loom.end(), 2000);
        loom.workers(0, 0);
        Check.same("14: that shift is needed", loom.hasTimes(), false);
    }

    /** "Each work needs one worker in all of its time." */
    private static void oneWorkerInAllOfItsTime() {
        Manyshiftloom loom = Looms.single(0, 0, 8);
        loom.workers(1, 0);
        Check.same("14: it fits into the shift", loom.begin(0, 0), 0);
        loom.workers(0, 0);
        Check.same("14: into the last one", loom.begin(0, 0), 16);
        Manyshiftloom longer = Looms.single(0, 0, 9);
        longer.workers(1, 0);
        Check.same("14: over two shifts and midnight", longer.begin(0, 0), 16);
        longer.workers(0, 0);
        Check.same("14: one time too long for a shift", longer.hasTimes(), false);
        Manyshiftloom released = Looms.single(1, 0, 8);
        released.workers(1, 0);
        Check.same("14: its last time has no worker", released.begin(0, 0), 16);
        released.workers(2, 0);
        Check.same("14: the next day", released.begin(0, 0), 24);
    }

    /** "in each of its times the works that got their times so far leave a worker". */
    private static void workersLeft() {
        for (int workers = 1; workers <= 4; workers++) {
            Manyshiftloom loom = new Manyshiftloom();
            for (int machine = 0; machine < 4; machine++) {
                loom.order(0, 1, 0, 0, 1);
                loom.work(machine, machine, 2, -1);
            }
            for (int shift = 0; shift < 3; shift++) {
                loom.workers(shift, workers);
            }
            for (int order = 0; order < 4; order++) {
                Check.same("14: with " + workers + " workers", loom.begin(order, 0), order / workers * 2);
            }
            Check.same("14: " + workers + " at once", loom.busy(1), workers);
        }
    }

    /** Two works on two machines; the first one of the row has the times 20 to 23, and takes a worker in these alone. */
    private static int beginBeside(int release, int time) {
        Manyshiftloom loom = Looms.single(20, 0, 4);
        loom.order(0, 1, release, 0, 1);
        loom.work(1, 1, time, -1);
        for (int shift = 0; shift < 3; shift++) {
            loom.workers(shift, 1);
        }
        return loom.begin(1, 0);
    }

    /** "Each work needs one worker in all of its time": in no time ahead of it or behind it. */
    private static void workersAheadAndBehind() {
        Check.same("14: ahead of it", beginBeside(0, 9), 0);
        Check.same("14: it ends as the other begins", beginBeside(11, 9), 11);
        Check.same("14: one time too late for that", beginBeside(12, 9), 24);
        Check.same("14: one time too long for that", beginBeside(19, 2), 24);
        Check.same("14: in its last time", beginBeside(23, 1), 24);
        Check.same("14: it begins as the other ends", beginBeside(24, 9), 24);
    }

    /** Each time is held against the workers of its own shift: 3 up to the time 7, 1 from 8 on. */
    private static void workersOfTwoShifts() {
        for (int other = 7; other <= 9; other++) {
            Manyshiftloom loom = Looms.single(0, 0, other);
            loom.order(0, 1, 6, 0, 1);
            loom.work(1, 1, 4, -1);
            loom.workers(0, 3);
            loom.workers(1, 1);
            Check.same("14: the other one ends at " + other, loom.begin(1, 0), other <= 8 ? 6 : 9);
        }
        Manyshiftloom less = Looms.single(0, 0, 9);
        less.order(0, 1, 6, 0, 1);
        less.work(1, 1, 4, -1);
        less.workers(0, 1);
        less.workers(1, 3);
        Check.same("14: one worker up to the time 7, three from 8 on", less.begin(1, 0), 8);
    }

    /** The time 1999 has its workers, too. */
    private static void workersOfTheLastTime() {
        for (int workers = 0; workers <= 3; workers++) {
            Manyshiftloom loom = new Manyshiftloom();
            for (int machine = 0; machine < 3; machine++) {
                loom.order(0, 1, 0, 0, 1);
                loom.work(machine, machine, 1, -1);
                loom.rest(machine, 0, 1999);
            }
            loom.workers(0, workers);
            Check.same("14: three at the last time, workers " + workers, loom.hasTimes(), workers == 3);
            loom.drop(2);
            Check.same("14: two at the last time, workers " + workers, loom.hasTimes(), workers >= 2);
            loom.drop(1);
            Check.same("14: one at the last time, workers " + workers, loom.hasTimes(), workers >= 1);
        }
    }

    private static void rests() {
        Edge.within("15: machine: 0 to 3", RICH, 0, 3, Edge.ARGUMENT, (loom, n) -> loom.rests(n, 0));
        Edge.within("15: time: 0 to 2000", RICH, 0, 2000, Edge.ARGUMENT, (loom, n) -> loom.rests(0, n));
        Edge.refuses("15: both", RICH, Edge.ARGUMENT, loom -> loom.rests(-1, 2001));
    }

    private static void restsEnds() {
        Manyshiftloom ten = Looms.tenRests();
        for (int told = 0; told < 10; told++) {
            Check.same("15: each of 10, the one at " + told, ten.rests(told % 4, told), true);
            Check.same("15: of its machine alone", ten.rests((told + 1) % 4, told), false);
        }
        Manyshiftloom loom = new Manyshiftloom();
        loom.rest(1, 0, 1);
        loom.rest(2, 1999, 2000);
        loom.rest(3, 0, 2000);
        loom.rest(0, 5, 7);
        loom.rest(0, 7, 8);
        loom.rest(0, 6, 10);
        for (int time = 0; time <= 2000; time++) {
            Check.same("15: the least rest at " + time, loom.rests(1, time), time == 0);
            Check.same("15: the last rest at " + time, loom.rests(2, time), time == 1999);
            Check.same("15: the longest rest at " + time, loom.rests(3, time), time < 2000);
            Check.same("15: three that overlap at " + time, loom.rests(0, time), time >= 5 && time < 10);
        }
    }
}
