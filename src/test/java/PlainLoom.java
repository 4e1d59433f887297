import java.math.BigInteger;
import java.util.ArrayDeque;
import java.util.ArrayList;
import java.util.Arrays;
import java.util.List;
import java.util.NoSuchElementException;
import java.util.TreeMap;

/**
 * The document once more, told as plainly as can be and without regard to speed: random runs hold the class against
 * it. It shares no code with the class on purpose.
 */
final class PlainLoom {
    static final int NONE = -1;

    static final class Work {
        int machine;
        int piece;
        int tool;

        Work(int machine, int piece, int tool) {
            this.machine = machine;
            this.piece = piece;
            this.tool = tool;
        }
    }

    static final class Order {
        int kind;
        int amount;
        int release;
        int due;
        int weight;
        List<Work> works = new ArrayList<>();

        Order copy() {
            Order twin = new Order();
            twin.kind = kind;
            twin.amount = amount;
            twin.release = release;
            twin.due = due;
            twin.weight = weight;
            for (Work work : works) {
                twin.works.add(new Work(work.machine, work.piece, work.tool));
            }
            return twin;
        }

        int time(int work) {
            return amount * works.get(work).piece;
        }

        int whole() {
            int sum = 0;
            for (int i = 0; i < works.size(); i++) {
                sum += time(i);
            }
            return sum;
        }
    }

    static final class State {
        List<Order> orders = new ArrayList<>();
        int[][][] settings = new int[4][4][4];
        List<int[]> rests = new ArrayList<>();
        int[] workers = {4, 4, 4};
        List<Integer> row = new ArrayList<>();
        TreeMap<Integer, List<Integer>> kept = new TreeMap<>();
        int lateRate = 1;
        int earlyRate = 0;

        State copy() {
            State twin = new State();
            for (Order order : orders) {
                twin.orders.add(order.copy());
            }
            for (int m = 0; m < 4; m++) {
                for (int k = 0; k < 4; k++) {
                    twin.settings[m][k] = settings[m][k].clone();
                }
            }
            for (int[] rest : rests) {
                twin.rests.add(rest.clone());
            }
            twin.workers = workers.clone();
            twin.row = new ArrayList<>(row);
            for (int slot : kept.keySet()) {
                twin.kept.put(slot, new ArrayList<>(kept.get(slot)));
            }
            twin.lateRate = lateRate;
            twin.earlyRate = earlyRate;
            return twin;
        }
    }

    /** A work that got its times. */
    static final class Timed {
        int order;
        int number;
        int machine;
        int tool;
        int begin;
        int end;
    }

    private State now = new State();
    private final ArrayDeque<State> before = new ArrayDeque<>();
    private final List<Integer> tape = new ArrayList<>();
    private int errorAt = NONE;
    private String written = "";

    private void change() {
        before.push(now.copy());
        if (before.size() > 12) {
            before.removeLast();
        }
    }

    private static void argument(boolean holds) {
        if (!holds) {
            throw new IllegalArgumentException();
        }
    }

    private static void state(boolean holds) {
        if (!holds) {
            throw new IllegalStateException();
        }
    }

    private static void index(boolean holds) {
        if (!holds) {
            throw new IndexOutOfBoundsException();
        }
    }

    private static boolean in(int value, int low, int high) {
        return low <= value && value <= high;
    }

    private void isOrder(int order) {
        index(in(order, 0, now.orders.size() - 1));
    }

    private void isWork(int order, int work) {
        isOrder(order);
        index(in(work, 0, now.orders.get(order).works.size() - 1));
    }

    private List<Integer> firstRow() {
        List<Integer> row = new ArrayList<>();
        for (int order = 0; order < now.orders.size(); order++) {
            for (Work ignored : now.orders.get(order).works) {
                row.add(order);
            }
        }
        return row;
    }

    private boolean resting(int machine, int time) {
        for (int[] rest : now.rests) {
            if (rest[0] == machine && rest[1] <= time && time < rest[2]) {
                return true;
            }
        }
        return false;
    }

    /** The next work of the order behind those that have their times; its begin is 2001 if it would not end. */
    private Timed next(List<Timed> soFar, int order) {
        Order of = now.orders.get(order);
        Timed timed = new Timed();
        timed.order = order;
        for (Timed other : soFar) {
            timed.number += other.order == order ? 1 : 0;
        }
        timed.machine = of.works.get(timed.number).machine;
        timed.tool = of.works.get(timed.number).tool;
        int least = of.release;
        for (Timed other : soFar) {
            if (other.order == order) {
                least = Math.max(least, other.end);
            }
            if (other.tool != NONE && other.tool == timed.tool) {
                least = Math.max(least, other.end);
            }
        }
        for (int i = soFar.size() - 1; i >= 0; i--) {
            Timed other = soFar.get(i);
            if (other.machine == timed.machine) {
                int from = now.orders.get(other.order).kind;
                least = Math.max(least, other.end + (from == of.kind ? 0 : now.settings[timed.machine][from][of.kind]));
                break;
            }
        }
        int takes = of.time(timed.number);
        timed.begin = 2001;
        timed.end = 2001;
        for (int begin = least; begin + takes <= 2000; begin++) {
            if (canBe(soFar, timed.machine, begin, begin + takes)) {
                timed.begin = begin;
                timed.end = begin + takes;
                break;
            }
        }
        return timed;
    }

    private boolean canBe(List<Timed> soFar, int machine, int begin, int end) {
        for (int time = begin; time < end; time++) {
            int at = 0;
            for (Timed other : soFar) {
                at += other.begin <= time && time < other.end ? 1 : 0;
            }
            if (resting(machine, time) || at >= now.workers[time % 24 / 8]) {
                return false;
            }
        }
        return true;
    }

    /** The times of a row, or null. */
    private List<Timed> times(List<Integer> row) {
        List<Timed> soFar = new ArrayList<>();
        for (int order : row) {
            Timed timed = next(soFar, order);
            if (timed.begin == 2001) {
                return null;
            }
            soFar.add(timed);
        }
        return soFar;
    }

    private List<Timed> present() {
        List<Timed> timed = times(now.row);
        state(timed != null);
        return timed;
    }

    private static int end(List<Timed> timed) {
        int end = 0;
        for (Timed work : timed) {
            end = Math.max(end, work.end);
        }
        return end;
    }

    private int endOrNone(List<Integer> row) {
        List<Timed> timed = times(row);
        return timed == null ? NONE : end(timed);
    }

    private int endOf(List<Timed> timed, int order) {
        int end = now.orders.get(order).release;
        for (Timed work : timed) {
            if (work.order == order) {
                end = Math.max(end, work.end);
            }
        }
        return end;
    }

    private BigInteger cost(List<Timed> timed) {
        BigInteger sum = BigInteger.ZERO;
        for (int order = 0; order < now.orders.size(); order++) {
            int end = endOf(timed, order);
            int due = now.orders.get(order).due;
            int times = end > due ? (end - due) * now.lateRate : (due - end) * now.earlyRate;
            sum = sum.add(BigInteger.valueOf(now.orders.get(order).weight).multiply(BigInteger.valueOf(times)));
        }
        return sum;
    }

    public int order(int kind, int amount, int release, int due, int weight) {
        argument(in(kind, 0, 3) && in(amount, 1, 9) && in(release, 0, 200) && in(due, 0, 500) && in(weight, 1, 9));
        state(now.orders.size() < 8);
        change();
        Order order = new Order();
        order.kind = kind;
        order.amount = amount;
        order.release = release;
        order.due = due;
        order.weight = weight;
        now.orders.add(order);
        now.kept.clear();
        now.row = firstRow();
        return now.orders.size() - 1;
    }

    public int work(int order, int machine, int time, int tool) {
        isOrder(order);
        argument(in(machine, 0, 3) && in(time, 1, 9) && in(tool, -1, 2));
        state(now.orders.get(order).works.size() < 4 && works() < 16);
        change();
        now.orders.get(order).works.add(new Work(machine, time, tool));
        now.kept.clear();
        now.row = firstRow();
        return now.orders.get(order).works.size();
    }

    public int drop(int order) {
        isOrder(order);
        change();
        now.orders.remove(order);
        now.kept.clear();
        now.row = firstRow();
        return now.orders.size();
    }

    public int setAmount(int order, int amount) {
        isOrder(order);
        argument(in(amount, 1, 9));
        change();
        int was = now.orders.get(order).amount;
        now.orders.get(order).amount = amount;
        now.row = firstRow();
        return was;
    }

    public int cut(int order, int amount) {
        isOrder(order);
        Order whole = now.orders.get(order);
        argument(in(amount, 1, whole.amount - 1));
        state(now.orders.size() < 8 && works() + whole.works.size() <= 16);
        change();
        Order lot = whole.copy();
        lot.amount = amount;
        whole.amount -= amount;
        now.orders.add(lot);
        now.kept.clear();
        now.row = firstRow();
        return now.orders.size() - 1;
    }

    public int orderOf(int order, int what) {
        isOrder(order);
        argument(in(what, 0, 6));
        Order of = now.orders.get(order);
        return new int[] {of.kind, of.amount, of.release, of.due, of.weight, of.works.size(), of.whole()}[what];
    }

    public int workOf(int order, int work, int what) {
        isWork(order, work);
        argument(in(what, 0, 3));
        Work of = now.orders.get(order).works.get(work);
        return new int[] {of.machine, of.piece, of.tool, now.orders.get(order).time(work)}[what];
    }

    public int orders() {
        return now.orders.size();
    }

    public int works() {
        return firstRow().size();
    }

    public int setting(int machine, int from, int to, int time) {
        argument(in(machine, 0, 3) && in(from, 0, 3) && in(to, 0, 3) && in(time, 0, 20) && from != to);
        change();
        int was = now.settings[machine][from][to];
        now.settings[machine][from][to] = time;
        return was;
    }

    public int rest(int machine, int from, int to) {
        argument(in(machine, 0, 3) && in(from, 0, 1999) && in(to, from + 1, 2000));
        state(now.rests.size() < 10);
        change();
        List<Timed> had = times(now.row);
        now.rests.add(new int[] {machine, from, to});
        List<Timed> has = times(now.row);
        return had == null || has == null ? NONE : moved(had, has);
    }

    private static int moved(List<Timed> some, List<Timed> others) {
        int moved = 0;
        for (Timed one : some) {
            for (Timed other : others) {
                if (one.order == other.order && one.number == other.number && one.begin != other.begin) {
                    moved++;
                }
            }
        }
        return moved;
    }

    public int noRest() {
        change();
        int were = now.rests.size();
        now.rests.clear();
        return were;
    }

    public int workers(int shift, int workers) {
        argument(in(shift, 0, 2) && in(workers, 0, 4));
        change();
        int were = now.workers[shift];
        now.workers[shift] = workers;
        return were;
    }

    public boolean rests(int machine, int time) {
        argument(in(machine, 0, 3) && in(time, 0, 2000));
        return resting(machine, time);
    }

    public boolean plan(int rule) {
        argument(in(rule, 0, 5));
        change();
        List<Timed> soFar = new ArrayList<>();
        List<Integer> row = new ArrayList<>();
        int all = works();
        while (row.size() < all) {
            Timed best = null;
            for (int order = 0; order < now.orders.size(); order++) {
                int of = order;
                if (row.stream().filter(o -> o == of).count() < now.orders.get(order).works.size()) {
                    Timed timed = next(soFar, order);
                    if (best == null || timed.begin < best.begin
                            || timed.begin == best.begin && isFirst(rule, timed, best)) {
                        best = timed;
                    }
                }
            }
            soFar.add(best);
            row.add(best.order);
        }
        now.row = row;
        return hasTimes();
    }

    private boolean isFirst(int rule, Timed one, Timed other) {
        Order a = now.orders.get(one.order);
        Order b = now.orders.get(other.order);
        switch (rule) {
            case 1:
                return a.time(one.number) < b.time(other.number);
            case 2:
                return a.time(one.number) > b.time(other.number);
            case 3:
                return a.due < b.due;
            case 4:
                return a.weight > b.weight;
            case 5:
                int leftOfA = 0;
                for (int i = one.number; i < a.works.size(); i++) {
                    leftOfA += a.time(i);
                }
                int leftOfB = 0;
                for (int i = other.number; i < b.works.size(); i++) {
                    leftOfB += b.time(i);
                }
                return leftOfA > leftOfB;
            default:
                return false;
        }
    }

    public int rowAt(int place) {
        index(in(place, 0, now.row.size() - 1));
        return now.row.get(place);
    }

    public boolean hasTimes() {
        return times(now.row) != null;
    }

    public int begin(int order, int work) {
        isWork(order, work);
        for (Timed timed : present()) {
            if (timed.order == order && timed.number == work) {
                return timed.begin;
            }
        }
        throw new AssertionError();
    }

    public int endOf(int order) {
        isOrder(order);
        return endOf(present(), order);
    }

    public int end() {
        return end(present());
    }

    public int busy(int time) {
        argument(in(time, 0, 2000));
        int busy = 0;
        for (Timed timed : present()) {
            busy += timed.begin <= time && time < timed.end ? 1 : 0;
        }
        return busy;
    }

    public int workAt(int machine, int time) {
        argument(in(machine, 0, 3) && in(time, 0, 2000));
        for (Timed timed : present()) {
            if (timed.machine == machine && timed.begin <= time && time < timed.end) {
                return timed.order;
            }
        }
        return NONE;
    }

    private int timeOn(int order, int machine) {
        int sum = 0;
        Order of = now.orders.get(order);
        for (int work = 0; work < of.works.size(); work++) {
            sum += of.works.get(work).machine == machine ? of.time(work) : 0;
        }
        return sum;
    }

    public int load(int machine) {
        argument(in(machine, 0, 3));
        int sum = 0;
        for (int order = 0; order < now.orders.size(); order++) {
            sum += timeOn(order, machine);
        }
        return sum;
    }

    public int bound() {
        int bound = 0;
        int[] ahead = {9999, 9999, 9999, 9999};
        int[] behind = {9999, 9999, 9999, 9999};
        for (Order order : now.orders) {
            if (!order.works.isEmpty()) {
                bound = Math.max(bound, order.release + order.whole());
            }
            int reached = 0;
            for (int work = 0; work < order.works.size(); work++) {
                int machine = order.works.get(work).machine;
                ahead[machine] = Math.min(ahead[machine], order.release + reached);
                reached += order.time(work);
                behind[machine] = Math.min(behind[machine], order.whole() - reached);
            }
        }
        for (int machine = 0; machine < 4; machine++) {
            if (load(machine) > 0) {
                bound = Math.max(bound, load(machine) + ahead[machine] + behind[machine]);
            }
        }
        return bound;
    }

    private List<Integer> leastRow;
    private int leastEnd;

    public int least() {
        state(works() <= 8);
        change();
        leastRow = null;
        leastEnd = 9999;
        int[] left = new int[now.orders.size()];
        for (int order = 0; order < left.length; order++) {
            left[order] = now.orders.get(order).works.size();
        }
        tryAll(new ArrayList<>(), new ArrayList<>(), left);
        if (leastRow == null) {
            return NONE;
        }
        now.row = leastRow;
        return leastEnd;
    }

    private void tryAll(List<Integer> row, List<Timed> soFar, int[] left) {
        if (row.size() == works()) {
            if (end(soFar) < leastEnd) {
                leastEnd = end(soFar);
                leastRow = new ArrayList<>(row);
            }
            return;
        }
        for (int order = 0; order < left.length; order++) {
            if (left[order] > 0) {
                Timed timed = next(soFar, order);
                if (timed.begin != 2001) {
                    left[order]--;
                    row.add(order);
                    soFar.add(timed);
                    tryAll(row, soFar, left);
                    soFar.remove(soFar.size() - 1);
                    row.remove(row.size() - 1);
                    left[order]++;
                }
            }
        }
    }

    private List<Timed> chain() {
        List<Timed> timed = present();
        List<Timed> chain = new ArrayList<>();
        Timed last = null;
        for (Timed work : timed) {
            if (work.end == end(timed) && last == null) {
                last = work;
            }
        }
        while (last != null) {
            chain.add(0, last);
            last = ahead(timed, last);
        }
        return chain;
    }

    private Timed ahead(List<Timed> timed, Timed of) {
        Timed order = null;
        Timed machine = null;
        Timed tool = null;
        for (Timed other : timed) {
            if (other == of) {
                break;
            }
            order = other.order == of.order ? other : order;
            machine = other.machine == of.machine ? other : machine;
            tool = of.tool != NONE && other.tool == of.tool ? other : tool;
        }
        if (order != null && order.end == of.begin) {
            return order;
        }
        if (machine != null) {
            int from = now.orders.get(machine.order).kind;
            int to = now.orders.get(of.order).kind;
            if (machine.end + (from == to ? 0 : now.settings[of.machine][from][to]) == of.begin) {
                return machine;
            }
        }
        return tool != null && tool.end == of.begin ? tool : null;
    }

    public int critical() {
        return chain().size();
    }

    public int criticalAt(int place) {
        List<Timed> chain = chain();
        index(in(place, 0, chain.size() - 1));
        return 10 * chain.get(place).order + chain.get(place).number;
    }

    private List<Integer> onMachine(int machine) {
        List<Integer> row = new ArrayList<>();
        for (int order = 0; order < now.orders.size(); order++) {
            if (timeOn(order, machine) > 0) {
                row.add(order);
            }
        }
        return row;
    }

    private List<Integer> byRatios(int machine) {
        List<Integer> row = onMachine(machine);
        // The sort is stable, so that of several the least order stays first.
        row.sort((a, b) -> Integer.compare(now.orders.get(b).weight * timeOn(a, machine),
                now.orders.get(a).weight * timeOn(b, machine)));
        return row;
    }

    private List<Integer> byDays(int machine) {
        List<Integer> row = onMachine(machine);
        row.sort((a, b) -> Integer.compare(now.orders.get(a).due, now.orders.get(b).due));
        return row;
    }

    /** Those that go; the row given loses them. */
    private List<Integer> send(int machine, List<Integer> row) {
        List<Integer> gone = new ArrayList<>();
        List<Integer> staying = new ArrayList<>();
        for (int order : row) {
            staying.add(order);
            int end = 0;
            for (int other : staying) {
                end += timeOn(other, machine);
            }
            if (end > now.orders.get(order).due) {
                Integer longest = staying.get(0);
                for (Integer other : staying) {
                    if (timeOn(other, machine) > timeOn(longest, machine)
                            || timeOn(other, machine) == timeOn(longest, machine) && other > longest) {
                        longest = other;
                    }
                }
                staying.remove(longest);
                gone.add(longest);
            }
        }
        row.clear();
        row.addAll(staying);
        return gone;
    }

    public int weighted(int machine) {
        argument(in(machine, 0, 3));
        int sum = 0;
        int end = 0;
        for (int order : byRatios(machine)) {
            end += timeOn(order, machine);
            sum += now.orders.get(order).weight * end;
        }
        return sum;
    }

    public int lateness(int machine) {
        argument(in(machine, 0, 3));
        int greatest = -9999;
        int end = 0;
        for (int order : byDays(machine)) {
            end += timeOn(order, machine);
            greatest = Math.max(greatest, end - now.orders.get(order).due);
        }
        return end == 0 ? 0 : greatest;
    }

    public int fewestLate(int machine) {
        argument(in(machine, 0, 3));
        return send(machine, byDays(machine)).size();
    }

    public int oneAt(int machine, int way, int place) {
        argument(in(machine, 0, 3) && in(way, 0, 2));
        List<Integer> row = way == 0 ? byRatios(machine) : byDays(machine);
        if (way == 2) {
            List<Integer> gone = send(machine, row);
            row.addAll(gone);
        }
        index(in(place, 0, row.size() - 1));
        return row.get(place);
    }

    private List<Integer> told(int first, int second) {
        List<Integer> row = new ArrayList<>();
        for (int order = 0; order < now.orders.size(); order++) {
            if (timeOn(order, first) + timeOn(order, second) > 0) {
                row.add(order);
            }
        }
        List<Integer> ahead = new ArrayList<>();
        List<Integer> others = new ArrayList<>();
        for (int order : row) {
            (timeOn(order, first) < timeOn(order, second) ? ahead : others).add(order);
        }
        ahead.sort((a, b) -> Integer.compare(timeOn(a, first), timeOn(b, first)));
        others.sort((a, b) -> Integer.compare(timeOn(b, second), timeOn(a, second)));
        ahead.addAll(others);
        return ahead;
    }

    public int two(int first, int second) {
        argument(in(first, 0, 3) && in(second, 0, 3) && first != second);
        int one = 0;
        int two = 0;
        for (int order : told(first, second)) {
            one += timeOn(order, first);
            two = Math.max(one, two) + timeOn(order, second);
        }
        return two;
    }

    public int twoAt(int first, int second, int place) {
        argument(in(first, 0, 3) && in(second, 0, 3) && first != second);
        List<Integer> row = told(first, second);
        index(in(place, 0, row.size() - 1));
        return row.get(place);
    }

    public int setRate(boolean isLate, int rate) {
        argument(in(rate, 0, 1000));
        change();
        int was = isLate ? now.lateRate : now.earlyRate;
        if (isLate) {
            now.lateRate = rate;
        } else {
            now.earlyRate = rate;
        }
        return was;
    }

    public long cost() {
        return cost(present()).longValueExact();
    }

    public int late() {
        List<Timed> timed = present();
        int late = 0;
        for (int order = 0; order < now.orders.size(); order++) {
            late += endOf(timed, order) > now.orders.get(order).due ? 1 : 0;
        }
        return late;
    }

    private static List<Integer> moved(List<Integer> row, int from, int to) {
        List<Integer> moved = new ArrayList<>(row);
        Integer order = moved.remove(from);
        moved.add(to, order);
        return moved;
    }

    public boolean move(int from, int to) {
        index(in(from, 0, now.row.size() - 1) && in(to, 0, now.row.size() - 1));
        change();
        now.row = moved(now.row, from, to);
        return hasTimes();
    }

    public int improve() {
        List<Timed> timed = present();
        change();
        int bestEnd = 9999;
        BigInteger bestCost = null;
        List<Integer> best = null;
        for (int from = 0; from < now.row.size(); from++) {
            for (int to = 0; to < now.row.size(); to++) {
                if (from != to) {
                    List<Integer> row = moved(now.row, from, to);
                    List<Timed> then = times(row);
                    if (then != null && (end(then) < bestEnd
                            || end(then) == bestEnd && cost(then).compareTo(bestCost) < 0)) {
                        best = row;
                        bestEnd = end(then);
                        bestCost = cost(then);
                    }
                }
            }
        }
        int end = end(timed);
        if (best == null || bestEnd > end || bestEnd == end && bestCost.compareTo(cost(timed)) >= 0) {
            return NONE;
        }
        now.row = best;
        return end - bestEnd;
    }

    public int without(int order) {
        isOrder(order);
        List<Integer> row = new ArrayList<>(now.row);
        row.removeIf(o -> o == order);
        return endOrNone(row);
    }

    public int keep(int slot) {
        argument(in(slot, 0, 2));
        change();
        now.kept.put(slot, new ArrayList<>(now.row));
        return endOrNone(now.row);
    }

    public int take(int slot) {
        argument(in(slot, 0, 2));
        if (!now.kept.containsKey(slot)) {
            throw new NoSuchElementException();
        }
        change();
        now.row = new ArrayList<>(now.kept.get(slot));
        return endOrNone(now.row);
    }

    public int differ(int slot) {
        argument(in(slot, 0, 2));
        if (!now.kept.containsKey(slot)) {
            throw new NoSuchElementException();
        }
        List<Timed> other = times(now.kept.get(slot));
        state(other != null);
        return moved(present(), other);
    }

    public int append(int a, int b, int c, int d, int e) {
        List<Integer> more = new ArrayList<>();
        for (int four : new int[] {a, b, c, d, e}) {
            for (int one : Arrays.asList(four >>> 24, four >>> 16 & 255, four >>> 8 & 255, four & 255)) {
                if (one != 0) {
                    more.add(one);
                }
            }
        }
        state(tape.size() + more.size() <= 60);
        tape.addAll(more);
        return tape.size();
    }

    public int clearTape() {
        int were = tape.size();
        tape.clear();
        return were;
    }

    public boolean read() {
        List<Integer> row = new ArrayList<>();
        errorAt = NONE;
        for (int at = 0; at < tape.size() && errorAt == NONE; at++) {
            int one = tape.get(at);
            if (one == 32 || one == 10) {
                continue;
            }
            int order = one - '0';
            if (!in(order, 0, now.orders.size() - 1)
                    || row.stream().filter(o -> o == order).count() >= now.orders.get(order).works.size()) {
                errorAt = at;
            } else {
                row.add(order);
            }
        }
        if (errorAt == NONE && row.size() < works()) {
            errorAt = tape.size();
        }
        tape.clear();
        argument(errorAt == NONE);
        change();
        now.row = row;
        return hasTimes();
    }

    public int errorPosition() {
        return errorAt;
    }

    public int write() {
        StringBuilder text = new StringBuilder();
        for (int order : now.row) {
            text.append(order);
        }
        written = text.toString();
        return written.length();
    }

    public char writtenAt(int index) {
        index(in(index, 0, written.length() - 1));
        return written.charAt(index);
    }

    public int undo() {
        if (before.isEmpty()) {
            return NONE;
        }
        now = before.pop();
        return before.size();
    }

    public int checksum() {
        List<Timed> timed = times(now.row);
        int sum = 17;
        for (int place = 0; place < now.row.size(); place++) {
            sum = sum * 31 + now.row.get(place) + (timed == null ? 0 : timed.get(place).begin);
        }
        return sum;
    }

    public double meanEnd() {
        List<Timed> timed = present();
        int sum = 0;
        for (int order = 0; order < now.orders.size(); order++) {
            sum += endOf(timed, order);
        }
        return now.orders.isEmpty() ? 0.0 : (double) sum / (double) now.orders.size();
    }

    public float use(int machine) {
        argument(in(machine, 0, 3));
        int end = end(present());
        return end == 0 ? 0.0f : (float) load(machine) / (float) end;
    }

    public int errors() {
        return 0;
    }
}
