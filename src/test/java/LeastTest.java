/**
 * Promise 26: the least end, and the first row that has it, are those that come out when each row of the loom is put on
 * the tape and read, one by one. Promise 54: none of these looms has an error.
 */
public final class LeastTest {
    private static final int LOOMS = 3000;
    private static final int MOST_ROWS = 900;
    /** An object is for 512 calls: some of them make the loom, and a row takes three. */
    private static final int ROWS_OF_A_LOOM = 100;

    private final int number;
    private long seed;
    private Manyshiftloom tried;
    private int rows;
    private int leastEnd = -1;
    private String leastRow = "";

    private LeastTest(int number) {
        this.number = number;
    }

    public static void main(String[] args) {
        int none = 0;
        int held = 0;
        for (int number = 0; number < LOOMS; number++) {
            LeastTest test = new LeastTest(number);
            if (test.countRows() <= MOST_ROWS) {
                test.hold();
                none += test.leastEnd == -1 ? 1 : 0;
                held++;
            }
        }
        Check.note(held > LOOMS / 2, "26: looms that were held: " + held);
        Check.note(none > held / 100, "26: looms without times: " + none);
        Check.close();
    }

    private int below(int limit) {
        seed = seed * 6364136223846793005L + 1442695040888963407L;
        return (int) ((seed >>> 33) % limit);
    }

    /** The same loom each time that it is made. */
    private Manyshiftloom make() {
        seed = number * 104729L + 71;
        Manyshiftloom loom = new Manyshiftloom();
        int orders = 1 + below(6);
        int longest = 2 + below(4);
        int machines = 1 + below(4);
        int tools = below(4);
        for (int order = 0; order < orders; order++) {
            loom.order(below(3), 1 + below(2), below(2) * below(8), 0, 1);
        }
        int works = 2 + below(7);
        for (int work = 0; work < works; work++) {
            int order = below(orders);
            if (loom.orderOf(order, 5) < 4) {
                loom.work(order, below(machines), 1 + below(longest), below(tools + 1) - 1);
            }
        }
        for (int settings = below(2) * below(8); settings > 0; settings--) {
            int from = below(3);
            loom.setting(below(machines), from, (from + 1 + below(2)) % 3, below(6));
        }
        for (int rests = below(3); rests > 0; rests--) {
            int from = below(20);
            loom.rest(below(machines), from, below(4) == 0 ? 2000 : from + 1 + below(9));
        }
        if (below(3) == 0) {
            for (int shift = 0; shift < 3; shift++) {
                loom.workers(shift, below(3) == 0 ? below(3) : 1 + below(3));
            }
        }
        return loom;
    }

    private int countRows() {
        Manyshiftloom loom = make();
        int count = 1;
        int places = 0;
        for (int order = 0; order < loom.orders(); order++) {
            for (int work = 1; work <= loom.orderOf(order, 5); work++) {
                places++;
                count = count * places / work;
            }
        }
        return count;
    }

    private void hold() {
        Manyshiftloom loom = make();
        int[] left = new int[loom.orders()];
        for (int order = 0; order < left.length; order++) {
            left[order] = loom.orderOf(order, 5);
        }
        tryRows(left, "", loom.works());
        String before = Looms.row(loom);
        Check.same("26: loom " + number, loom.least(), leastEnd);
        Check.same("26: the row of loom " + number, Looms.row(loom), leastEnd == -1 ? before : leastRow);
        Check.same("54: the errors of loom " + number, loom.errors(), 0);
    }

    /** At most 8 digits, put on the tape in one call. */
    private boolean read(String row) {
        long digits = 0;
        for (int place = 0; place < row.length(); place++) {
            digits = digits << 8 | row.charAt(place);
        }
        tried.append((int) (digits >>> 32), (int) digits, 0, 0, 0);
        return tried.read();
    }

    /** Rows come in their order, so that a later one must end earlier to be the one. */
    private void tryRows(int[] left, String row, int works) {
        if (row.length() == works) {
            if (rows % ROWS_OF_A_LOOM == 0) {
                tried = make();
            }
            rows++;
            if (read(row) && (leastEnd == -1 || tried.end() < leastEnd)) {
                leastEnd = tried.end();
                leastRow = row;
            }
            return;
        }
        for (int order = 0; order < left.length; order++) {
            if (left[order] > 0) {
                left[order]--;
                tryRows(left, row + order, works);
                left[order]++;
            }
        }
    }
}
