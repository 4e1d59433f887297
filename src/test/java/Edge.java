import java.util.NoSuchElementException;
import java.util.function.Supplier;

/** Edges of calls: numbers at the ends of their ranges, and calls that are refused and leave all as it was. */
final class Edge {
    static final Class<IllegalArgumentException> ARGUMENT = IllegalArgumentException.class;
    static final Class<IllegalStateException> STATE = IllegalStateException.class;
    static final Class<IndexOutOfBoundsException> INDEX = IndexOutOfBoundsException.class;
    static final Class<NoSuchElementException> ELEMENT = NoSuchElementException.class;

    interface Call {
        Object on(Manyshiftloom loom);
    }

    interface NumberCall {
        Object on(Manyshiftloom loom, int number);
    }

    private Edge() {
    }

    static void answers(String what, Manyshiftloom loom, Object due, Call call) {
        Object got;
        try {
            got = call.on(loom);
        } catch (RuntimeException thrown) {
            got = thrown;
        }
        Check.same(what, got, due);
    }

    /** The call throws what is due, and all is as on a loom on which it was never tried. */
    static void refuses(String what, Supplier<Manyshiftloom> maker, Class<? extends RuntimeException> due, Call call) {
        Check.raises(what, due, () -> call.on(maker.get()));
        Supplier<Manyshiftloom> tried = () -> tried(maker.get(), call);
        Check.same(what + ": what is left", Whole.all(tried), Whole.all(maker));
        Check.same(what + ": the texts left", Whole.texts(tried), Whole.texts(maker));
    }

    static Manyshiftloom tried(Manyshiftloom loom, Call call) {
        try {
            call.on(loom);
        } catch (RuntimeException thrown) {
            // What is thrown was looked at before; what it leaves counts here.
            return loom;
        }
        return loom;
    }

    /** The ends of a range are taken; the numbers beside them, and those farthest off, are refused. */
    static void within(String what, Supplier<Manyshiftloom> maker, int least, int greatest,
            Class<? extends RuntimeException> refusal, NumberCall call) {
        for (int number : new int[] {least, greatest, least + (greatest - least) / 2}) {
            String got = "nothing";
            try {
                call.on(maker.get(), number);
            } catch (RuntimeException thrown) {
                got = thrown.toString();
            }
            Check.same(what + " with " + number + " throws", got, "nothing");
        }
        outside(what, maker, least, greatest, refusal, call);
    }

    /** The numbers beside a range, and those farthest off, are refused. */
    static void outside(String what, Supplier<Manyshiftloom> maker, int least, int greatest,
            Class<? extends RuntimeException> refusal, NumberCall call) {
        for (int number : new int[] {least - 1, greatest + 1, Integer.MIN_VALUE, Integer.MAX_VALUE}) {
            refuses(what + " with " + number, maker, refusal, loom -> call.on(loom, number));
        }
    }
}
