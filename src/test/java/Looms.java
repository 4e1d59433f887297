/** Looms that several tests begin with. */
final class Looms {
    private Looms() {
    }

    /** Order 0: 6 on machine 0, then 4 on machine 1; order 1: 5 on machine 0. The first row ends at 11. */
    static Manyshiftloom two() {
        Manyshiftloom loom = new Manyshiftloom();
        loom.order(0, 2, 0, 10, 1);
        loom.work(0, 0, 3, -1);
        loom.work(0, 1, 2, -1);
        loom.order(1, 1, 0, 5, 2);
        loom.work(1, 0, 5, -1);
        return loom;
    }

    /** Two orders on machines 0 and 1 whose first row, 0 0 1 1, ends at 9; 1 0 1 0 ends at 7. */
    static Manyshiftloom crossed() {
        Manyshiftloom loom = new Manyshiftloom();
        loom.order(0, 1, 0, 0, 1);
        loom.work(0, 0, 3, -1);
        loom.work(0, 1, 2, -1);
        loom.order(0, 1, 0, 0, 1);
        loom.work(1, 0, 1, -1);
        loom.work(1, 1, 4, -1);
        return loom;
    }

    /** So many orders alike, each with one work of time 1 on machine 0. */
    static Manyshiftloom alike(int orders) {
        Manyshiftloom loom = new Manyshiftloom();
        for (int order = 0; order < orders; order++) {
            loom.order(0, 1, 0, 0, 1);
            loom.work(order, 0, 1, -1);
        }
        return loom;
    }

    /** One order whose only work can never be done. */
    static Manyshiftloom withoutTimes() {
        Manyshiftloom loom = alike(1);
        for (int shift = 0; shift < 3; shift++) {
            loom.workers(shift, 0);
        }
        return loom;
    }

    /** Machine 0 is free for 4 times and then from 1995 on: the first row, 01, has no times, but 10 ends at 2000. */
    static Manyshiftloom gap() {
        Manyshiftloom loom = new Manyshiftloom();
        loom.order(0, 1, 0, 0, 1);
        loom.work(0, 0, 5, -1);
        loom.order(0, 1, 0, 0, 1);
        loom.work(1, 0, 4, -1);
        loom.rest(0, 4, 1995);
        return loom;
    }

    /** Every store holds something, and there is room for more; 12 changes can be undone. */
    static Manyshiftloom rich() {
        Manyshiftloom loom = two();
        loom.order(2, 3, 4, 40, 5);
        loom.work(2, 1, 1, 2);
        loom.keep(1);
        loom.setting(0, 0, 1, 3);
        loom.rest(0, 30, 40);
        loom.rest(1, 2, 5);
        loom.workers(1, 2);
        loom.setRate(false, 2);
        loom.move(0, 3);
        loom.keep(0);
        loom.plan(3);
        tape(loom, "0012 9");
        tried(loom);
        tape(loom, " 01\n");
        loom.write();
        return loom;
    }

    private static void tried(Manyshiftloom loom) {
        Check.raisesArgument("a text with an error", loom::read);
    }

    /** 8 orders with 2 works each: there is room for no more. */
    static Manyshiftloom full() {
        Manyshiftloom loom = alike(8);
        for (int order = 0; order < 8; order++) {
            loom.work(order, 1 + order % 3, 1 + order, order % 3);
        }
        return loom;
    }

    /** So many orders without works, each of 9 pieces. */
    static Manyshiftloom bare(int orders) {
        Manyshiftloom loom = new Manyshiftloom();
        for (int order = 0; order < orders; order++) {
            loom.order(order % 4, 9, 0, 0, 1);
        }
        return loom;
    }

    /** Three orders of one work each, with 10 rests told. */
    static Manyshiftloom tenRests() {
        Manyshiftloom loom = alike(3);
        for (int told = 0; told < 10; told++) {
            loom.rest(told % 4, told, told + 1);
        }
        return loom;
    }

    /** One order whose only work, on machine 0, takes so many times (1 to 9). */
    static Manyshiftloom single(int release, int due, int time) {
        Manyshiftloom loom = new Manyshiftloom();
        loom.order(0, 1, release, due, 1);
        loom.work(0, 0, time, -1);
        return loom;
    }

    /** One order whose only work, of time 1, begins at 1999 and ends at 2000: the latest that there is. */
    static Manyshiftloom latest() {
        Manyshiftloom loom = single(0, 0, 1);
        loom.rest(0, 0, 1999);
        return loom;
    }

    static String row(Manyshiftloom loom) {
        StringBuilder row = new StringBuilder();
        for (int place = 0; place < loom.works(); place++) {
            row.append(loom.rowAt(place));
        }
        return row.toString();
    }

    /** The text on the tape, byte by byte, so that it may hold any sign but 0. */
    static int tape(Manyshiftloom loom, String text) {
        int length = 0;
        for (int at = 0; at < text.length(); at++) {
            length = loom.append(0, 0, 0, 0, text.charAt(at));
        }
        return length;
    }

    static boolean read(Manyshiftloom loom, String text) {
        tape(loom, text);
        return loom.read();
    }
}
