import java.util.NoSuchElementException;

public final class Manyshiftloom {
    public static final int NONE = -1;

    private static final int MACHINES = 4;
    private static final int TOOLS = 3;
    private static final int KINDS = 4;
    private static final int ORDERS = 8;
    private static final int WORKS = 16;
    private static final int WORKS_OF_ORDER = 4;
    private static final int MOST_PIECES = 9;
    private static final int MOST_RELEASE = 200;
    private static final int MOST_DUE = 500;
    private static final int MOST_WEIGHT = 9;
    private static final int MOST_TIME = 9;
    private static final int MOST_SETTING = 20;
    private static final int MOST_RATE = 1000;

    private static final int RESTS = 10;
    private static final int SHIFTS = 3;
    private static final int SHIFT_TIMES = 8;
    private static final int DAY_TIMES = 24;
    private static final int MOST_WORKERS = 4;

    private static final int LAST = 2000;
    /** A work that would not end by LAST begins and ends here: behind all that have times. */
    private static final int NEVER = 2001;
    /** Above every time, sum and cost of one machine, so that it can stand for none. */
    private static final int FAR = 1000000;

    private static final int RULES = 6;
    private static final int MOST_SEARCHED = 8;
    private static final int MOST_HELD = 6;
    private static final int SLOTS = 3;
    private static final int TAPE_BYTES = 60;
    private static final int CHANGES = 12;

    /** The cells of an order stand as orderOf() numbers them, so that its "what" is a cell. */
    private static final int KIND = 0;
    private static final int AMOUNT = 1;
    private static final int RELEASE = 2;
    private static final int DUE = 3;
    private static final int WEIGHT = 4;
    private static final int WORK_COUNT = 5;
    private static final int WHOLE_TIME = 6;
    private static final int ORDER_CELLS = 6;

    /** The cells of a work stand as workOf() numbers them, so that its "what" is a cell. */
    private static final int MACHINE = 0;
    private static final int PIECE = 1;
    private static final int TOOL = 2;
    private static final int TAKEN = 3;
    private static final int WORK_CELLS = 3;

    private static final int REST_FROM = 1;
    private static final int REST_TO = 2;
    private static final int REST_CELLS = 3;

    private static final int FIRST_DIGIT = 48;

    private static final int EARLY = 0;
    private static final int LATE = 1;

    private static final int BY_RATIOS = 0;
    private static final int BY_DAYS = 1;
    private static final int FEWEST_LATE = 2;

    private final Shop shop = new Shop();
    private final History history = new History();
    private final Timing present = new Timing();
    private final Timing trial = new Timing();
    private final Maker maker = new Maker();
    private final OneMachine one = new OneMachine();
    private final TwoMachines pair = new TwoMachines();
    private final Theorem theorem = new Theorem();
    private final Tape tape = new Tape();
    private final Writing writing = new Writing();

    public Manyshiftloom() {
    }

    // ---- Orders, works, machines

    public int order(int kind, int amount, int release, int due, int weight)
            throws IllegalArgumentException, IllegalStateException {
        requireArgument(isWithin(kind, 0, KINDS - 1) && isWithin(amount, 1, MOST_PIECES));
        requireArgument(isWithin(release, 0, MOST_RELEASE) && isWithin(due, 0, MOST_DUE));
        requireArgument(isWithin(weight, 1, MOST_WEIGHT));
        requireState(shop.orderCount < ORDERS);
        history.remember(shop);
        int number = shop.orderCount;
        shop.addOrder(kind, amount, release, due, weight);
        shop.startAfresh();
        refresh();
        return number;
    }

    public int work(int order, int machine, int time, int tool)
            throws IndexOutOfBoundsException, IllegalArgumentException, IllegalStateException {
        requireIndex(isOrder(order));
        requireArgument(isMachine(machine) && isWithin(time, 1, MOST_TIME));
        requireArgument(tool == NONE || isWithin(tool, 0, TOOLS - 1));
        requireState(shop.worksIn(order) < WORKS_OF_ORDER && shop.workCount < WORKS);
        history.remember(shop);
        shop.addWork(order, machine, time, tool);
        shop.startAfresh();
        refresh();
        return shop.worksIn(order);
    }

    public int drop(int order) throws IndexOutOfBoundsException {
        requireIndex(isOrder(order));
        history.remember(shop);
        shop.removeOrder(order);
        shop.startAfresh();
        refresh();
        return shop.orderCount;
    }

    public int setAmount(int order, int amount) throws IndexOutOfBoundsException, IllegalArgumentException {
        requireIndex(isOrder(order));
        requireArgument(isWithin(amount, 1, MOST_PIECES));
        history.remember(shop);
        int before = shop.orderCell(order, AMOUNT);
        shop.setOrderCell(order, AMOUNT, amount);
        // Kept plans stay here: they go with orders and works alone.
        shop.layRow();
        refresh();
        return before;
    }

    public int cut(int order, int amount)
            throws IndexOutOfBoundsException, IllegalArgumentException, IllegalStateException {
        requireIndex(isOrder(order));
        requireArgument(isWithin(amount, 1, shop.orderCell(order, AMOUNT) - 1));
        requireState(shop.orderCount < ORDERS && shop.workCount + shop.worksIn(order) <= WORKS);
        history.remember(shop);
        int number = shop.orderCount;
        shop.cutLot(order, amount);
        shop.startAfresh();
        refresh();
        return number;
    }

    public int orderOf(int order, int what) throws IndexOutOfBoundsException, IllegalArgumentException {
        requireIndex(isOrder(order));
        requireArgument(isWithin(what, KIND, WHOLE_TIME));
        return what == WHOLE_TIME ? shop.timeFrom(order, 0) : shop.orderCell(order, what);
    }

    public int workOf(int order, int work, int what) throws IndexOutOfBoundsException, IllegalArgumentException {
        requireIndex(isWork(order, work));
        requireArgument(isWithin(what, MACHINE, TAKEN));
        return what == TAKEN ? shop.timeOf(order, work) : shop.workCell(order, work, what);
    }

    public int orders() {
        return shop.orderCount;
    }

    public int works() {
        return shop.workCount;
    }

    public int setting(int machine, int from, int to, int time) throws IllegalArgumentException {
        requireArgument(isMachine(machine) && isWithin(from, 0, KINDS - 1) && isWithin(to, 0, KINDS - 1));
        requireArgument(isWithin(time, 0, MOST_SETTING) && from != to);
        history.remember(shop);
        int before = shop.settingOf(machine, from, to);
        shop.tellSetting(machine, from, to, time);
        refresh();
        return before;
    }

    // ---- Rest, workers

    public int rest(int machine, int from, int to) throws IllegalArgumentException, IllegalStateException {
        requireArgument(isMachine(machine) && isWithin(from, 0, LAST - 1) && isWithin(to, from + 1, LAST));
        requireState(shop.restCount < RESTS);
        history.remember(shop);
        shop.addRest(machine, from, to);
        trial.follow(shop, shop.row, shop.workCount);
        int moved = present.fits && trial.fits ? present.countMoved(trial) : NONE;
        refresh();
        return moved;
    }

    public int noRest() {
        history.remember(shop);
        int told = shop.restCount;
        shop.restCount = 0;
        refresh();
        return told;
    }

    public int workers(int shift, int workers) throws IllegalArgumentException {
        requireArgument(isWithin(shift, 0, SHIFTS - 1) && isWithin(workers, 0, MOST_WORKERS));
        history.remember(shop);
        int before = at(shop.shifts, shift);
        put(shop.shifts, shift, workers);
        refresh();
        return before;
    }

    public boolean rests(int machine, int time) throws IllegalArgumentException {
        requireArgument(isMachine(machine) && isWithin(time, 0, LAST));
        return shop.timeBehindRest(machine, time, time + 1) != time;
    }

    // ---- Plans

    public boolean plan(int rule) throws IllegalArgumentException {
        requireArgument(isWithin(rule, 0, RULES - 1));
        history.remember(shop);
        maker.makeByRule(shop, trial, rule);
        return takeRow(maker.bestRow);
    }

    public int rowAt(int place) throws IndexOutOfBoundsException {
        requireIndex(isPlace(place));
        return at(shop.row, place);
    }

    public boolean hasTimes() {
        return present.fits;
    }

    public int begin(int order, int work) throws IndexOutOfBoundsException, IllegalStateException {
        requireIndex(isWork(order, work));
        requireState(present.fits);
        return present.beginOf(order, work);
    }

    public int endOf(int order) throws IndexOutOfBoundsException, IllegalStateException {
        requireIndex(isOrder(order));
        requireState(present.fits);
        return present.finishOf(shop, order);
    }

    public int end() throws IllegalStateException {
        requireState(present.fits);
        return present.latestFinish();
    }

    public int busy(int time) throws IllegalArgumentException, IllegalStateException {
        requireArgument(isWithin(time, 0, LAST));
        requireState(present.fits);
        return present.countAtTime(time);
    }

    public int workAt(int machine, int time) throws IllegalArgumentException, IllegalStateException {
        requireArgument(isMachine(machine) && isWithin(time, 0, LAST));
        requireState(present.fits);
        return present.orderOn(machine, time);
    }

    public int load(int machine) throws IllegalArgumentException {
        requireArgument(isMachine(machine));
        return shop.timeOnMachine(machine);
    }

    // ---- Bounds, the least end

    public int bound() {
        return shop.lowestEnd();
    }

    public int least() throws IllegalStateException {
        requireState(shop.workCount <= MOST_SEARCHED);
        history.remember(shop);
        if (!maker.findLeast(shop, trial, shop.lowestEnd())) {
            return NONE;
        }
        takeRow(maker.bestRow);
        return present.latestFinish();
    }

    // ---- Critical works

    public int critical() throws IllegalStateException {
        requireState(present.fits);
        return present.countCritical(shop);
    }

    public int criticalAt(int place) throws IllegalStateException, IndexOutOfBoundsException {
        requireState(present.fits);
        int count = present.countCritical(shop);
        requireIndex(isWithin(place, 0, count - 1));
        return present.criticalWork(shop, count - 1 - place);
    }

    // ---- One machine, two machines

    public int weighted(int machine) throws IllegalArgumentException {
        requireArgument(isMachine(machine));
        one.arrange(shop, machine, BY_RATIOS);
        return one.sumOfWeightedEnds(shop);
    }

    public int lateness(int machine) throws IllegalArgumentException {
        requireArgument(isMachine(machine));
        one.arrange(shop, machine, BY_DAYS);
        return one.greatestLateness(shop);
    }

    public int fewestLate(int machine) throws IllegalArgumentException {
        requireArgument(isMachine(machine));
        one.arrange(shop, machine, FEWEST_LATE);
        return one.goneCount;
    }

    public int oneAt(int machine, int way, int place) throws IllegalArgumentException, IndexOutOfBoundsException {
        requireArgument(isMachine(machine) && isWithin(way, BY_RATIOS, FEWEST_LATE));
        one.arrange(shop, machine, way);
        requireIndex(isWithin(place, 0, one.count - 1));
        return at(one.row, place);
    }

    public int two(int first, int second) throws IllegalArgumentException {
        requireArgument(isMachine(first) && isMachine(second) && first != second);
        pair.arrange(shop, first, second);
        return pair.finish();
    }

    public int twoAt(int first, int second, int place) throws IllegalArgumentException, IndexOutOfBoundsException {
        requireArgument(isMachine(first) && isMachine(second) && first != second);
        pair.arrange(shop, first, second);
        requireIndex(isWithin(place, 0, pair.count - 1));
        return at(pair.row, place);
    }

    // ---- Costs, moves

    public int setRate(boolean isLate, int rate) throws IllegalArgumentException {
        requireArgument(isWithin(rate, 0, MOST_RATE));
        history.remember(shop);
        int which = isLate ? LATE : EARLY;
        int before = at(shop.rates, which);
        put(shop.rates, which, rate);
        return before;
    }

    public long cost() throws IllegalStateException {
        requireState(present.fits);
        return present.charge(shop);
    }

    public int late() throws IllegalStateException {
        requireState(present.fits);
        return present.countLate(shop);
    }

    public boolean move(int from, int to) throws IndexOutOfBoundsException {
        requireIndex(isPlace(from) && isPlace(to));
        history.remember(shop);
        maker.layMoved(shop, from, to);
        return takeRow(maker.row);
    }

    public int improve() throws IllegalStateException {
        requireState(present.fits);
        history.remember(shop);
        int end = present.latestFinish();
        if (!maker.findMove(shop, trial, end, present.charge(shop))) {
            return NONE;
        }
        takeRow(maker.bestRow);
        return end - present.latestFinish();
    }

    public int without(int order) throws IndexOutOfBoundsException {
        requireIndex(isOrder(order));
        int length = maker.layWithout(shop, order);
        return trial.follow(shop, maker.row, length) ? trial.latestFinish() : NONE;
    }

    // ---- Plans held against each other

    public int keep(int slot) throws IllegalArgumentException {
        requireArgument(isSlot(slot));
        history.remember(shop);
        shop.keepRow(slot);
        return present.fits ? present.latestFinish() : NONE;
    }

    public int take(int slot) throws IllegalArgumentException, NoSuchElementException {
        requireArgument(isSlot(slot));
        requireElement(at(shop.kept, slot) != 0);
        history.remember(shop);
        shop.copyKept(slot, maker.row);
        return takeRow(maker.row) ? present.latestFinish() : NONE;
    }

    public int differ(int slot) throws IllegalArgumentException, NoSuchElementException, IllegalStateException {
        requireArgument(isSlot(slot));
        requireElement(at(shop.kept, slot) != 0);
        shop.copyKept(slot, maker.row);
        requireState(present.fits && trial.follow(shop, maker.row, shop.workCount));
        return present.countMoved(trial);
    }

    // ---- Texts

    public int append(int a, int b, int c, int d, int e) throws IllegalStateException {
        int more = Tape.countBytes(a) + Tape.countBytes(b) + Tape.countBytes(c)
                + Tape.countBytes(d) + Tape.countBytes(e);
        requireState(tape.length + more <= TAPE_BYTES);
        tape.addBytes(a);
        tape.addBytes(b);
        tape.addBytes(c);
        tape.addBytes(d);
        tape.addBytes(e);
        return tape.length;
    }

    public int clearTape() {
        int before = tape.length;
        tape.length = 0;
        return before;
    }

    public boolean read() throws IllegalArgumentException {
        tape.errorAt = tape.findError(shop, maker.row);
        tape.length = 0;
        requireArgument(tape.errorAt == NONE);
        history.remember(shop);
        return takeRow(maker.row);
    }

    public int errorPosition() {
        return tape.errorAt;
    }

    public int write() {
        writing.tell(shop);
        return writing.length;
    }

    public char writtenAt(int index) throws IndexOutOfBoundsException {
        requireIndex(isWithin(index, 0, writing.length - 1));
        return writing.signAt(index);
    }

    // ---- Undo, figures, second ways

    public int undo() {
        int left = history.goBack(shop);
        refresh();
        return left;
    }

    public int checksum() {
        int sum = 17;
        for (int place = 0; place < shop.workCount; place++) {
            sum = 31 * sum + at(shop.row, place);
            if (present.fits) {
                sum += at(present.begins, place);
            }
        }
        return sum;
    }

    public double meanEnd() throws IllegalStateException {
        requireState(present.fits);
        int count = shop.orderCount;
        if (count == 0) {
            return 0.0;
        }
        int sum = 0;
        for (int order = 0; order < count; order++) {
            sum += present.finishOf(shop, order);
        }
        return (double) sum / (double) count;
    }

    public float use(int machine) throws IllegalArgumentException, IllegalStateException {
        requireArgument(isMachine(machine));
        requireState(present.fits);
        int end = present.latestFinish();
        return end == 0 ? 0.0f : (float) shop.timeOnMachine(machine) / (float) end;
    }

    public int errors() {
        int wrong = theorem.countMachines(shop, one) + theorem.countPairs(shop, pair);
        if (present.fits) {
            wrong += present.countErrors(shop);
            wrong += present.latestFinish() < shop.lowestEnd() ? 1 : 0;
        }
        return wrong;
    }

    // ---- What the calls share

    private void refresh() {
        present.follow(shop, shop.row, shop.workCount);
    }

    private boolean takeRow(int[] row) {
        copy(row, shop.row);
        return present.follow(shop, shop.row, shop.workCount);
    }

    private boolean isOrder(int order) {
        return isWithin(order, 0, shop.orderCount - 1);
    }

    private boolean isWork(int order, int work) {
        return isOrder(order) && isWithin(work, 0, shop.worksIn(order) - 1);
    }

    private boolean isPlace(int place) {
        return isWithin(place, 0, shop.workCount - 1);
    }

    private static boolean isMachine(int machine) {
        return isWithin(machine, 0, MACHINES - 1);
    }

    private static boolean isSlot(int slot) {
        return isWithin(slot, 0, SLOTS - 1);
    }

    private static int shiftOf(int time) {
        return time % DAY_TIMES / SHIFT_TIMES;
    }

    private static boolean isWithin(int number, int least, int greatest) {
        return number >= least && number <= greatest;
    }

    private static void requireIndex(boolean holds) {
        if (!holds) {
            throw new IndexOutOfBoundsException();
        }
    }

    private static void requireArgument(boolean holds) {
        if (!holds) {
            throw new IllegalArgumentException();
        }
    }

    private static void requireState(boolean holds) {
        if (!holds) {
            throw new IllegalStateException();
        }
    }

    private static void requireElement(boolean holds) {
        if (!holds) {
            throw new NoSuchElementException();
        }
    }

    /** Every index that is worked out goes through at() and put(), so that the machine itself never throws. */
    private static int at(int[] cells, int index) {
        return index >= 0 && index < cells.length ? cells[index] : 0;
    }

    private static void put(int[] cells, int index, int value) {
        if (index >= 0 && index < cells.length) {
            cells[index] = value;
        }
    }

    private static void copy(int[] from, int[] to) {
        System.arraycopy(from, 0, to, 0, Math.min(from.length, to.length));
    }

    private static void fill(int[] cells, int value) {
        for (int index = 0; index < cells.length; index++) {
            cells[index] = value;
        }
    }

    /** All that undo() brings back: orders, works, settings, rests, workers, rates, and the rows of the plans. */
    private static final class Shop {
        int orderCount;
        int workCount;
        int restCount;
        final int[] orderCells = new int[ORDERS * ORDER_CELLS];
        final int[] workCells = new int[ORDERS * WORKS_OF_ORDER * WORK_CELLS];
        final int[] settings = new int[MACHINES * KINDS * KINDS];
        final int[] restCells = new int[RESTS * REST_CELLS];
        final int[] shifts = new int[SHIFTS];
        final int[] rates = new int[2];
        final int[] row = new int[WORKS];
        final int[] kept = new int[SLOTS];
        final int[] keptRows = new int[SLOTS * WORKS];

        Shop() {
            for (int shift = 0; shift < SHIFTS; shift++) {
                shifts[shift] = MOST_WORKERS;
            }
            rates[LATE] = 1;
        }

        void copyFrom(Shop other) {
            orderCount = other.orderCount;
            workCount = other.workCount;
            restCount = other.restCount;
            copy(other.orderCells, orderCells);
            copy(other.workCells, workCells);
            copy(other.settings, settings);
            copy(other.restCells, restCells);
            copy(other.shifts, shifts);
            copy(other.rates, rates);
            copy(other.row, row);
            copy(other.kept, kept);
            copy(other.keptRows, keptRows);
        }

        int orderCell(int order, int what) {
            return at(orderCells, order * ORDER_CELLS + what);
        }

        void setOrderCell(int order, int what, int value) {
            put(orderCells, order * ORDER_CELLS + what, value);
        }

        int worksIn(int order) {
            return at(orderCells, order * ORDER_CELLS + WORK_COUNT);
        }

        int workCell(int order, int work, int what) {
            return at(workCells, (order * WORKS_OF_ORDER + work) * WORK_CELLS + what);
        }

        int timeOf(int order, int work) {
            return orderCell(order, AMOUNT) * workCell(order, work, PIECE);
        }

        int timeFrom(int order, int firstWork) {
            int count = worksIn(order);
            int pieces = 0;
            for (int work = firstWork; work < count; work++) {
                pieces += workCell(order, work, PIECE);
            }
            return pieces * orderCell(order, AMOUNT);
        }

        int timeOn(int order, int machine) {
            int count = worksIn(order);
            int pieces = 0;
            for (int work = 0; work < count; work++) {
                if (workCell(order, work, MACHINE) == machine) {
                    pieces += workCell(order, work, PIECE);
                }
            }
            return pieces * orderCell(order, AMOUNT);
        }

        int timeOnMachine(int machine) {
            int time = 0;
            for (int order = 0; order < orderCount; order++) {
                time += timeOn(order, machine);
            }
            return time;
        }

        void addOrder(int kind, int amount, int release, int due, int weight) {
            int order = orderCount;
            setOrderCell(order, KIND, kind);
            setOrderCell(order, AMOUNT, amount);
            setOrderCell(order, RELEASE, release);
            setOrderCell(order, DUE, due);
            setOrderCell(order, WEIGHT, weight);
            setOrderCell(order, WORK_COUNT, 0);
            orderCount++;
        }

        void addWork(int order, int machine, int time, int tool) {
            int work = worksIn(order);
            int cell = (order * WORKS_OF_ORDER + work) * WORK_CELLS;
            put(workCells, cell + MACHINE, machine);
            put(workCells, cell + PIECE, time);
            put(workCells, cell + TOOL, tool);
            setOrderCell(order, WORK_COUNT, work + 1);
            workCount++;
        }

        void removeOrder(int order) {
            workCount -= worksIn(order);
            orderCount--;
            for (int next = order; next < orderCount; next++) {
                copyOrder(next + 1, next);
            }
        }

        void cutLot(int order, int amount) {
            int lot = orderCount;
            copyOrder(order, lot);
            setOrderCell(lot, AMOUNT, amount);
            setOrderCell(order, AMOUNT, orderCell(order, AMOUNT) - amount);
            orderCount++;
            workCount += worksIn(lot);
        }

        private void copyOrder(int from, int to) {
            for (int what = 0; what < ORDER_CELLS; what++) {
                setOrderCell(to, what, orderCell(from, what));
            }
            int cells = WORKS_OF_ORDER * WORK_CELLS;
            for (int cell = 0; cell < cells; cell++) {
                put(workCells, to * cells + cell, at(workCells, from * cells + cell));
            }
        }

        int settingOf(int machine, int from, int to) {
            // Between two works of one kind the cell is never told, so that it stays 0.
            return at(settings, (machine * KINDS + from) * KINDS + to);
        }

        void tellSetting(int machine, int from, int to, int time) {
            put(settings, (machine * KINDS + from) * KINDS + to, time);
        }

        void addRest(int machine, int from, int to) {
            int cell = restCount * REST_CELLS;
            put(restCells, cell, machine);
            put(restCells, cell + REST_FROM, from);
            put(restCells, cell + REST_TO, to);
            restCount++;
        }

        /** Answers with a time behind the rest, not with a yes: no begin up to there is worth a try. */
        int timeBehindRest(int machine, int from, int to) {
            for (int rest = 0; rest < restCount; rest++) {
                int cell = rest * REST_CELLS;
                int restEnd = at(restCells, cell + REST_TO);
                if (at(restCells, cell) == machine && at(restCells, cell + REST_FROM) < to && restEnd > from) {
                    return restEnd;
                }
            }
            return from;
        }

        /** A machine does one work at a time, so that workers lack only where they are fewer than machines. */
        boolean isShortOfWorkers() {
            boolean isShort = false;
            for (int shift = 0; shift < SHIFTS; shift++) {
                isShort = isShort || shifts[shift] < MACHINES;
            }
            return isShort;
        }

        void layRow() {
            int place = 0;
            for (int order = 0; order < orderCount; order++) {
                int count = worksIn(order);
                for (int work = 0; work < count; work++) {
                    put(row, place, order);
                    place++;
                }
            }
        }

        /** Orders and works are others now: what was kept goes, and the first row comes back. */
        void startAfresh() {
            fill(kept, 0);
            layRow();
        }

        void keepRow(int slot) {
            put(kept, slot, 1);
            for (int place = 0; place < WORKS; place++) {
                put(keptRows, slot * WORKS + place, row[place]);
            }
        }

        void copyKept(int slot, int[] to) {
            for (int place = 0; place < WORKS; place++) {
                put(to, place, at(keptRows, slot * WORKS + place));
            }
        }

        int lowestEnd() {
            int lowest = 0;
            for (int order = 0; order < orderCount; order++) {
                if (worksIn(order) > 0) {
                    lowest = Math.max(lowest, orderCell(order, RELEASE) + timeFrom(order, 0));
                }
            }
            for (int machine = 0; machine < MACHINES; machine++) {
                lowest = Math.max(lowest, lowestEndOf(machine));
            }
            return lowest;
        }

        private int lowestEndOf(int machine) {
            int time = timeOnMachine(machine);
            if (time == 0) {
                return 0;
            }
            int ahead = FAR;
            int behind = FAR;
            for (int order = 0; order < orderCount; order++) {
                int count = worksIn(order);
                int whole = orderCell(order, RELEASE) + timeFrom(order, 0);
                for (int work = 0; work < count; work++) {
                    if (workCell(order, work, MACHINE) == machine) {
                        ahead = Math.min(ahead, whole - timeFrom(order, work));
                        behind = Math.min(behind, timeFrom(order, work + 1));
                    }
                }
            }
            return time + ahead + behind;
        }
    }

    private static final class History {
        private final Shop[] shops = new Shop[CHANGES];
        private int next;
        private int count;

        History() {
            for (int index = 0; index < CHANGES; index++) {
                shops[index] = new Shop();
            }
        }

        void remember(Shop shop) {
            Shop place = shopAt(next);
            if (place != null) {
                place.copyFrom(shop);
            }
            next = (next + 1) % CHANGES;
            count = Math.min(count + 1, CHANGES);
        }

        int goBack(Shop shop) {
            if (count == 0) {
                return NONE;
            }
            next = (next + CHANGES - 1) % CHANGES;
            count--;
            Shop before = shopAt(next);
            if (before != null) {
                shop.copyFrom(before);
            }
            return count;
        }

        private Shop shopAt(int index) {
            return index >= 0 && index < shops.length ? shops[index] : null;
        }
    }

    /** The latest place can be taken back, so that a search need not go through a row from its begin again. */
    private static final class Timing {
        boolean fits = true;
        private boolean isScarce;
        private int count;
        private final int[] orderAt = new int[WORKS];
        private final int[] numberAt = new int[WORKS];
        private final int[] machineAt = new int[WORKS];
        private final int[] toolAt = new int[WORKS];
        final int[] begins = new int[WORKS];
        private final int[] finishes = new int[WORKS];
        private final int[] orderBefore = new int[WORKS];
        private final int[] machineBefore = new int[WORKS];
        private final int[] toolBefore = new int[WORKS];
        private final int[] placeOf = new int[ORDERS * WORKS_OF_ORDER];
        private final int[] orderLast = new int[ORDERS];
        private final int[] machineLast = new int[MACHINES];
        private final int[] toolLast = new int[TOOLS];
        private final int[] placed = new int[ORDERS];
        private final int[] used = new int[LAST];

        Timing() {
            fill(orderLast, NONE);
            fill(machineLast, NONE);
            fill(toolLast, NONE);
        }

        void restart(Shop shop) {
            for (int left = count; left > 0; left--) {
                takeBack();
            }
            isScarce = shop.isShortOfWorkers();
        }

        boolean follow(Shop shop, int[] row, int length) {
            restart(shop);
            fits = true;
            for (int place = 0; place < length && fits; place++) {
                int order = at(row, place);
                int begin = earliest(shop, order);
                lay(shop, order, begin);
                fits = begin != NEVER;
            }
            return fits;
        }

        int placedOf(int order) {
            return at(placed, order);
        }

        int earliest(Shop shop, int order) {
            int work = at(placed, order);
            int machine = shop.workCell(order, work, MACHINE);
            return firstFree(shop, machine, ready(shop, order), shop.timeOf(order, work));
        }

        int ready(Shop shop, int order) {
            int work = at(placed, order);
            int machine = shop.workCell(order, work, MACHINE);
            int tool = shop.workCell(order, work, TOOL);
            int ready = Math.max(shop.orderCell(order, RELEASE), finishAt(at(orderLast, order)));
            ready = Math.max(ready, readyAfter(shop, at(machineLast, machine), machine, order));
            return tool == NONE ? ready : Math.max(ready, finishAt(at(toolLast, tool)));
        }

        /**
         * Whether the next work of the order would have the same times ahead of the latest one, in a row that comes
         * ahead of this one: so a search need not go on here.
         */
        boolean canSwap(Shop shop, int order) {
            int latest = count - 1;
            if (isScarce || latest < 0 || order >= at(orderAt, latest)) {
                return false;
            }
            int work = at(placed, order);
            int tool = shop.workCell(order, work, TOOL);
            return shop.workCell(order, work, MACHINE) != at(machineAt, latest)
                    && (tool == NONE || tool != at(toolAt, latest));
        }

        private int finishAt(int place) {
            return at(finishes, place);
        }

        private int readyAfter(Shop shop, int place, int machine, int order) {
            if (place == NONE) {
                return 0;
            }
            int kindBefore = shop.orderCell(at(orderAt, place), KIND);
            return finishAt(place) + shop.settingOf(machine, kindBefore, shop.orderCell(order, KIND));
        }

        int firstFree(Shop shop, int machine, int from, int time) {
            int begin = from;
            for (int tries = 0; tries <= LAST && begin + time <= LAST; tries++) {
                int next = shop.timeBehindRest(machine, begin, begin + time);
                if (next == begin && isScarce) {
                    next = timeBehindShortage(shop, begin, begin + time);
                }
                if (next == begin) {
                    return begin;
                }
                begin = next;
            }
            return NEVER;
        }

        /** Goes shift by shift from behind: the latest time without a worker puts the begin off farthest. */
        private int timeBehindShortage(Shop shop, int from, int to) {
            int first = to;
            for (int last = to - 1; last >= from; last = first - 1) {
                first = Math.max(from, last - last % SHIFT_TIMES);
                int full = lastFull(first, last, at(shop.shifts, shiftOf(last)));
                if (full != NONE) {
                    return full + 1;
                }
            }
            return from;
        }

        private int lastFull(int first, int last, int workers) {
            int end = workers < MACHINES ? Math.min(last, LAST - 1) : NONE;
            for (int time = end; time >= first && time >= 0; time--) {
                if (used[time] >= workers) {
                    return time;
                }
            }
            return NONE;
        }

        void lay(Shop shop, int order, int begin) {
            int place = count;
            int work = at(placed, order);
            int machine = shop.workCell(order, work, MACHINE);
            int tool = shop.workCell(order, work, TOOL);
            put(orderAt, place, order);
            put(numberAt, place, work);
            put(machineAt, place, machine);
            put(toolAt, place, tool);
            put(begins, place, begin);
            put(finishes, place, begin == NEVER ? NEVER : begin + shop.timeOf(order, work));
            put(orderBefore, place, at(orderLast, order));
            put(machineBefore, place, at(machineLast, machine));
            put(toolBefore, place, tool == NONE ? NONE : at(toolLast, tool));
            put(placeOf, order * WORKS_OF_ORDER + work, place);
            put(orderLast, order, place);
            put(machineLast, machine, place);
            put(toolLast, tool, place);
            put(placed, order, work + 1);
            useWorkers(place, 1);
            count++;
        }

        void takeBack() {
            int place = count - 1;
            int order = at(orderAt, place);
            useWorkers(place, -1);
            put(orderLast, order, at(orderBefore, place));
            put(machineLast, at(machineAt, place), at(machineBefore, place));
            put(toolLast, at(toolAt, place), at(toolBefore, place));
            put(placed, order, at(placed, order) - 1);
            count = place;
        }

        private void useWorkers(int place, int more) {
            int finish = isScarce ? Math.min(at(finishes, place), LAST) : 0;
            for (int time = Math.max(at(begins, place), 0); time < finish; time++) {
                used[time] += more;
            }
        }

        void copyRow(int[] to) {
            copy(orderAt, to);
        }

        int beginOf(int order, int work) {
            return at(begins, at(placeOf, order * WORKS_OF_ORDER + work));
        }

        int finishOf(Shop shop, int order) {
            return at(placed, order) == 0 ? shop.orderCell(order, RELEASE) : finishAt(at(orderLast, order));
        }

        int latestFinish() {
            int latest = 0;
            for (int place = 0; place < count; place++) {
                latest = Math.max(latest, finishAt(place));
            }
            return latest;
        }

        int countMoved(Timing other) {
            int moved = 0;
            for (int place = 0; place < count; place++) {
                if (at(begins, place) != other.beginOf(at(orderAt, place), at(numberAt, place))) {
                    moved++;
                }
            }
            return moved;
        }

        private boolean isDoneAt(int place, int time) {
            return at(begins, place) <= time && time < finishAt(place);
        }

        int countAtTime(int time) {
            int done = 0;
            for (int place = 0; place < count; place++) {
                done += isDoneAt(place, time) ? 1 : 0;
            }
            return done;
        }

        int orderOn(int machine, int time) {
            for (int place = 0; place < count; place++) {
                if (at(machineAt, place) == machine && isDoneAt(place, time)) {
                    return at(orderAt, place);
                }
            }
            return NONE;
        }

        long charge(Shop shop) {
            long sum = 0;
            for (int order = 0; order < shop.orderCount; order++) {
                int behind = finishOf(shop, order) - shop.orderCell(order, DUE);
                int rate = at(shop.rates, behind > 0 ? LATE : EARLY);
                sum += (long) shop.orderCell(order, WEIGHT) * Math.abs(behind) * rate;
            }
            return sum;
        }

        int countLate(Shop shop) {
            int late = 0;
            for (int order = 0; order < shop.orderCount; order++) {
                late += finishOf(shop, order) > shop.orderCell(order, DUE) ? 1 : 0;
            }
            return late;
        }

        private int lastCritical() {
            int last = NONE;
            for (int place = 0; place < count; place++) {
                if (last == NONE || finishAt(place) > finishAt(last)) {
                    last = place;
                }
            }
            return last;
        }

        private int criticalAhead(Shop shop, int place) {
            int begin = at(begins, place);
            int inOrder = at(orderBefore, place);
            if (inOrder != NONE && finishAt(inOrder) == begin) {
                return inOrder;
            }
            int onMachine = at(machineBefore, place);
            if (onMachine != NONE
                    && readyAfter(shop, onMachine, at(machineAt, place), at(orderAt, place)) == begin) {
                return onMachine;
            }
            int withTool = at(toolBefore, place);
            return withTool != NONE && finishAt(withTool) == begin ? withTool : NONE;
        }

        int countCritical(Shop shop) {
            int critical = 0;
            int place = lastCritical();
            while (place != NONE && critical < WORKS) {
                critical++;
                place = criticalAhead(shop, place);
            }
            return critical;
        }

        int criticalWork(Shop shop, int stepsFromLast) {
            int place = lastCritical();
            for (int step = 0; step < stepsFromLast && place != NONE; step++) {
                place = criticalAhead(shop, place);
            }
            return 10 * at(orderAt, place) + at(numberAt, place);
        }

        int countErrors(Shop shop) {
            int wrong = 0;
            for (int place = 0; place < count; place++) {
                wrong += isWrong(shop, place) ? 1 : 0;
            }
            int end = latestFinish();
            for (int time = 0; time < end; time++) {
                wrong += countAtTime(time) > at(shop.shifts, shiftOf(time)) ? 1 : 0;
            }
            return wrong + countWrongCritical(shop);
        }

        private boolean isWrong(Shop shop, int place) {
            int begin = at(begins, place);
            int before = at(orderBefore, place);
            if (before != NONE && begin < finishAt(before)) {
                return true;
            }
            if (shop.timeBehindRest(at(machineAt, place), begin, finishAt(place)) != begin) {
                return true;
            }
            for (int other = 0; other < count; other++) {
                if (other != place && sharesWith(place, other)
                        && begin < finishAt(other) && at(begins, other) < finishAt(place)) {
                    return true;
                }
            }
            return false;
        }

        private boolean sharesWith(int place, int other) {
            int tool = at(toolAt, place);
            return at(machineAt, place) == at(machineAt, other) || tool != NONE && tool == at(toolAt, other);
        }

        private int countWrongCritical(Shop shop) {
            int wrong = 0;
            int place = lastCritical();
            for (int step = 0; step < WORKS && place != NONE; step++) {
                int ahead = criticalAhead(shop, place);
                wrong += ahead == NONE || beginsBy(shop, place, ahead) ? 0 : 1;
                place = ahead;
            }
            return wrong;
        }

        private boolean beginsBy(Shop shop, int place, int ahead) {
            int begin = at(begins, place);
            int machine = at(machineAt, place);
            int tool = at(toolAt, place);
            boolean isSameOrder = at(orderAt, place) == at(orderAt, ahead);
            boolean isSameTool = tool != NONE && tool == at(toolAt, ahead);
            if ((isSameOrder || isSameTool) && begin == finishAt(ahead)) {
                return true;
            }
            return machine == at(machineAt, ahead) && begin == readyAfter(shop, ahead, machine, at(orderAt, place));
        }
    }

    private static final class Maker {
        final int[] row = new int[WORKS];
        final int[] bestRow = new int[WORKS];
        private final int[] leftOn = new int[MACHINES];
        private int goal;
        private int bestEnd;
        private long bestCost;

        void makeByRule(Shop shop, Timing timing, int rule) {
            timing.restart(shop);
            for (int place = 0; place < shop.workCount; place++) {
                int order = chooseByRule(shop, timing, rule);
                timing.lay(shop, order, timing.earliest(shop, order));
            }
            timing.copyRow(bestRow);
        }

        private int chooseByRule(Shop shop, Timing timing, int rule) {
            int chosen = NONE;
            int chosenBegin = 0;
            int chosenRank = 0;
            for (int order = 0; order < shop.orderCount; order++) {
                int work = timing.placedOf(order);
                if (work < shop.worksIn(order)) {
                    int begin = timing.earliest(shop, order);
                    int rank = rankByRule(shop, order, work, rule);
                    if (chosen == NONE || begin < chosenBegin || begin == chosenBegin && rank < chosenRank) {
                        chosen = order;
                        chosenBegin = begin;
                        chosenRank = rank;
                    }
                }
            }
            return chosen;
        }

        private static int rankByRule(Shop shop, int order, int work, int rule) {
            switch (rule) {
                case 1:
                    return shop.timeOf(order, work);
                case 2:
                    return -shop.timeOf(order, work);
                case 3:
                    return shop.orderCell(order, DUE);
                case 4:
                    return -shop.orderCell(order, WEIGHT);
                case 5:
                    return -shop.timeFrom(order, work);
                default:
                    return order;
            }
        }

        /** The bound is below the end of every plan: the search may stop at a plan that reaches it. */
        boolean findLeast(Shop shop, Timing timing, int bound) {
            timing.restart(shop);
            for (int machine = 0; machine < MACHINES; machine++) {
                leftOn[machine] = shop.timeOnMachine(machine);
            }
            goal = bound;
            bestEnd = NEVER;
            explore(shop, timing, 0, 0);
            return bestEnd != NEVER;
        }

        /** Rows come in their order, so that only a lesser end takes the place of one that was found. */
        private void explore(Shop shop, Timing timing, int depth, int end) {
            if (depth >= shop.workCount) {
                if (end < bestEnd) {
                    bestEnd = end;
                    timing.copyRow(bestRow);
                }
                return;
            }
            if (depth >= MOST_SEARCHED) {
                return;
            }
            for (int order = 0; order < shop.orderCount && bestEnd > goal; order++) {
                if (timing.placedOf(order) < shop.worksIn(order) && !timing.canSwap(shop, order)) {
                    exploreOrder(shop, timing, depth, end, order);
                }
            }
        }

        private void exploreOrder(Shop shop, Timing timing, int depth, int end, int order) {
            int work = timing.placedOf(order);
            int machine = shop.workCell(order, work, MACHINE);
            int time = shop.timeOf(order, work);
            int left = at(leftOn, machine) - time;
            int behind = Math.max(left, shop.timeFrom(order, work + 1));
            int ready = timing.ready(shop, order);
            if (ready + time + behind >= bestEnd) {
                return;
            }
            int begin = timing.firstFree(shop, machine, ready, time);
            int finish = begin + time;
            if (begin == NEVER || Math.max(end, finish + behind) >= bestEnd) {
                return;
            }
            timing.lay(shop, order, begin);
            put(leftOn, machine, left);
            explore(shop, timing, depth + 1, Math.max(end, finish));
            put(leftOn, machine, left + time);
            timing.takeBack();
        }

        void layMoved(Shop shop, int from, int to) {
            int other = 0;
            for (int place = 0; place < shop.workCount; place++) {
                if (other == from) {
                    other++;
                }
                if (place == to) {
                    put(row, place, at(shop.row, from));
                } else {
                    put(row, place, at(shop.row, other));
                    other++;
                }
            }
        }

        int layWithout(Shop shop, int order) {
            int length = 0;
            for (int place = 0; place < shop.workCount; place++) {
                int here = at(shop.row, place);
                if (here != order) {
                    put(row, length, here);
                    length++;
                }
            }
            return length;
        }

        boolean findMove(Shop shop, Timing timing, int end, long cost) {
            bestEnd = end;
            bestCost = cost;
            boolean isFound = false;
            for (int from = 0; from < shop.workCount; from++) {
                for (int to = 0; to < shop.workCount; to++) {
                    layMoved(shop, from, to);
                    if (timing.follow(shop, row, shop.workCount) && isBetter(shop, timing)) {
                        isFound = true;
                    }
                }
            }
            return isFound;
        }

        private boolean isBetter(Shop shop, Timing timing) {
            int end = timing.latestFinish();
            if (end > bestEnd) {
                return false;
            }
            long cost = timing.charge(shop);
            if (end == bestEnd && cost >= bestCost) {
                return false;
            }
            bestEnd = end;
            bestCost = cost;
            copy(row, bestRow);
            return true;
        }
    }

    private static final class OneMachine {
        private final int[] times = new int[ORDERS];
        final int[] row = new int[ORDERS];
        private final int[] gone = new int[ORDERS];
        int count;
        int goneCount;

        void arrange(Shop shop, int machine, int way) {
            count = 0;
            goneCount = 0;
            for (int order = 0; order < shop.orderCount; order++) {
                int time = shop.timeOn(order, machine);
                put(times, order, time);
                if (time > 0) {
                    insert(shop, order, way);
                }
            }
            if (way == FEWEST_LATE) {
                sendLateAway(shop);
            }
        }

        int timeOf(int order) {
            return at(times, order);
        }

        private void insert(Shop shop, int order, int way) {
            int place = count;
            while (place > 0 && isAhead(shop, order, at(row, place - 1), way)) {
                put(row, place, at(row, place - 1));
                place--;
            }
            put(row, place, order);
            count++;
        }

        private boolean isAhead(Shop shop, int order, int other, int way) {
            if (way == BY_RATIOS) {
                return shop.orderCell(order, WEIGHT) * timeOf(other) > shop.orderCell(other, WEIGHT) * timeOf(order);
            }
            return shop.orderCell(order, DUE) < shop.orderCell(other, DUE);
        }

        private void sendLateAway(Shop shop) {
            int staying = 0;
            int end = 0;
            for (int place = 0; place < count; place++) {
                int order = at(row, place);
                put(row, staying, order);
                staying++;
                end += timeOf(order);
                if (end > shop.orderCell(order, DUE)) {
                    int longest = placeOfLongest(staying);
                    end -= timeOf(at(row, longest));
                    put(gone, goneCount, at(row, longest));
                    goneCount++;
                    staying--;
                    closeGap(longest, staying);
                }
            }
            for (int index = 0; index < goneCount; index++) {
                put(row, staying + index, at(gone, index));
            }
        }

        private int placeOfLongest(int length) {
            int longest = 0;
            for (int place = 1; place < length; place++) {
                int more = timeOf(at(row, place)) - timeOf(at(row, longest));
                if (more > 0 || more == 0 && at(row, place) > at(row, longest)) {
                    longest = place;
                }
            }
            return longest;
        }

        private void closeGap(int gap, int length) {
            for (int place = gap; place < length; place++) {
                put(row, place, at(row, place + 1));
            }
        }

        int sumOfWeightedEnds(Shop shop) {
            int sum = 0;
            int end = 0;
            for (int place = 0; place < count; place++) {
                int order = at(row, place);
                end += timeOf(order);
                sum += shop.orderCell(order, WEIGHT) * end;
            }
            return sum;
        }

        int greatestLateness(Shop shop) {
            if (count == 0) {
                return 0;
            }
            int greatest = -FAR;
            int end = 0;
            for (int place = 0; place < count; place++) {
                int order = at(row, place);
                end += timeOf(order);
                greatest = Math.max(greatest, end - shop.orderCell(order, DUE));
            }
            return greatest;
        }
    }

    private static final class TwoMachines {
        final int[] firsts = new int[ORDERS];
        final int[] seconds = new int[ORDERS];
        final int[] row = new int[ORDERS];
        int count;

        void arrange(Shop shop, int first, int second) {
            count = 0;
            for (int order = 0; order < shop.orderCount; order++) {
                int onFirst = shop.timeOn(order, first);
                int onSecond = shop.timeOn(order, second);
                put(firsts, order, onFirst);
                put(seconds, order, onSecond);
                if (onFirst + onSecond > 0) {
                    insert(order);
                }
            }
        }

        private void insert(int order) {
            int place = count;
            while (place > 0 && isAhead(order, at(row, place - 1))) {
                put(row, place, at(row, place - 1));
                place--;
            }
            put(row, place, order);
            count++;
        }

        private boolean isAhead(int order, int other) {
            boolean isRising = at(firsts, order) < at(seconds, order);
            boolean isOtherRising = at(firsts, other) < at(seconds, other);
            if (isRising != isOtherRising) {
                return isRising;
            }
            return isRising ? at(firsts, order) < at(firsts, other) : at(seconds, order) > at(seconds, other);
        }

        int finish() {
            int firstEnd = 0;
            int secondEnd = 0;
            for (int place = 0; place < count; place++) {
                int order = at(row, place);
                firstEnd += at(firsts, order);
                secondEnd = Math.max(firstEnd, secondEnd) + at(seconds, order);
            }
            return secondEnd;
        }
    }

    /**
     * Holds what is told of one machine and two machines against all orders. The best of a set of orders, over all
     * of their rows, comes of the best of the sets without the one that goes last: so no row needs to be tried.
     */
    private static final class Theorem {
        private final int[] bests = new int[1 << MOST_HELD];

        int countMachines(Shop shop, OneMachine one) {
            int wrong = 0;
            for (int machine = 0; machine < MACHINES; machine++) {
                one.arrange(shop, machine, BY_RATIOS);
                if (one.count > 0 && one.count <= MOST_HELD) {
                    wrong += bestOfOne(shop, one, BY_RATIOS) < one.sumOfWeightedEnds(shop) ? 1 : 0;
                    one.arrange(shop, machine, BY_DAYS);
                    wrong += bestOfOne(shop, one, BY_DAYS) < one.greatestLateness(shop) ? 1 : 0;
                    one.arrange(shop, machine, FEWEST_LATE);
                    wrong += bestOfOne(shop, one, FEWEST_LATE) < one.goneCount ? 1 : 0;
                }
            }
            return wrong;
        }

        private int bestOfOne(Shop shop, OneMachine one, int way) {
            int sets = 1 << one.count;
            put(bests, 0, way == BY_DAYS ? -FAR : 0);
            for (int set = 1; set < sets; set++) {
                put(bests, set, bestOfSet(shop, one, way, set));
            }
            return at(bests, sets - 1);
        }

        private int bestOfSet(Shop shop, OneMachine one, int way, int set) {
            int end = 0;
            for (int index = 0; index < one.count; index++) {
                end += isIn(set, index) ? one.timeOf(at(one.row, index)) : 0;
            }
            int best = FAR;
            for (int index = 0; index < one.count; index++) {
                if (isIn(set, index)) {
                    int before = at(bests, set - (1 << index));
                    best = Math.min(best, withLast(shop, at(one.row, index), way, before, end));
                }
            }
            return best;
        }

        private static int withLast(Shop shop, int order, int way, int before, int end) {
            int due = shop.orderCell(order, DUE);
            if (way == BY_RATIOS) {
                return before + shop.orderCell(order, WEIGHT) * end;
            }
            if (way == BY_DAYS) {
                return Math.max(before, end - due);
            }
            return before + (end > due ? 1 : 0);
        }

        int countPairs(Shop shop, TwoMachines pair) {
            int wrong = 0;
            for (int first = 0; first < MACHINES; first++) {
                for (int second = 0; second < MACHINES; second++) {
                    if (first != second) {
                        pair.arrange(shop, first, second);
                        wrong += pair.count <= MOST_HELD && bestOfTwo(pair) < pair.finish() ? 1 : 0;
                    }
                }
            }
            return wrong;
        }

        private int bestOfTwo(TwoMachines pair) {
            int sets = 1 << pair.count;
            put(bests, 0, 0);
            for (int set = 1; set < sets; set++) {
                put(bests, set, bestOfPairSet(pair, set));
            }
            return at(bests, sets - 1);
        }

        private int bestOfPairSet(TwoMachines pair, int set) {
            int firstEnd = 0;
            for (int index = 0; index < pair.count; index++) {
                firstEnd += isIn(set, index) ? at(pair.firsts, at(pair.row, index)) : 0;
            }
            int best = FAR;
            for (int index = 0; index < pair.count; index++) {
                if (isIn(set, index)) {
                    int before = at(bests, set - (1 << index));
                    int last = at(pair.row, index);
                    best = Math.min(best, Math.max(firstEnd, before) + at(pair.seconds, last));
                }
            }
            return best;
        }

        private static boolean isIn(int set, int index) {
            return (set >> index & 1) != 0;
        }
    }

    private static final class Tape {
        private static final int INT_BITS = 32;
        private static final int BYTE_BITS = 8;
        private static final int BYTE_MASK = 255;
        private static final int SPACE = 32;
        private static final int LINE_END = 10;

        int length;
        int errorAt = NONE;
        private final int[] bytes = new int[TAPE_BYTES];
        private final int[] stood = new int[ORDERS];

        static int countBytes(int four) {
            int count = 0;
            for (int shift = 0; shift < INT_BITS; shift += BYTE_BITS) {
                count += (four >>> shift & BYTE_MASK) != 0 ? 1 : 0;
            }
            return count;
        }

        void addBytes(int four) {
            for (int shift = INT_BITS - BYTE_BITS; shift >= 0; shift -= BYTE_BITS) {
                int sign = four >>> shift & BYTE_MASK;
                if (sign != 0) {
                    put(bytes, length, sign);
                    length++;
                }
            }
        }

        int findError(Shop shop, int[] row) {
            fill(stood, 0);
            int place = 0;
            for (int index = 0; index < length; index++) {
                int sign = at(bytes, index);
                if (sign != SPACE && sign != LINE_END) {
                    int order = sign - FIRST_DIGIT;
                    if (!isWithin(order, 0, shop.orderCount - 1) || at(stood, order) >= shop.worksIn(order)) {
                        return index;
                    }
                    put(stood, order, at(stood, order) + 1);
                    put(row, place, order);
                    place++;
                }
            }
            return place < shop.workCount ? length : NONE;
        }
    }

    private static final class Writing {
        int length;
        private final char[] signs = new char[WORKS];

        void tell(Shop shop) {
            length = Math.min(shop.workCount, WORKS);
            for (int place = 0; place < length; place++) {
                signs[place] = (char) (FIRST_DIGIT + at(shop.row, place));
            }
        }

        char signAt(int index) {
            return index >= 0 && index < signs.length ? signs[index] : (char) 0;
        }
    }
}
