import java.util.function.Supplier;

/** Promises 44 to 49 at their edges: each sentence of the document that names one has a test of its own. */
public final class TextsEdgesTest {
    private static final Supplier<Manyshiftloom> NEW = Manyshiftloom::new;

    public static void main(String[] args) {
        appendBytes();
        appendFull();
        clearTape();
        readFits();
        readOfTheLongest();
        readErrors();
        readRefused();
        readOfAllBytes();
        errorPosition();
        write();
        writtenAt();
        Check.close();
    }

    /** A tape of so many bytes, all of them blanks. */
    private static Manyshiftloom blanks(Manyshiftloom loom, int count) {
        for (int at = 0; at < count; at++) {
            loom.append(0, 0, at % 2 == 0 ? 0x20 : 0x0a00, 0, 0);
        }
        return loom;
    }

    /** "the four bytes of each parameter, the most significant byte first [...]. Bytes that are 0 are left out." */
    private static void appendBytes() {
        Edge.answers("44: none at all", new Manyshiftloom(), 0, loom -> loom.append(0, 0, 0, 0, 0));
        Edge.answers("44: one, the most significant", new Manyshiftloom(), 1, loom -> loom.append(1 << 24, 0, 0, 0, 0));
        Edge.answers("44: one, the greatest", new Manyshiftloom(), 1, loom -> loom.append(0xff << 24, 0, 0, 0, 0));
        Edge.answers("44: the sign alone", new Manyshiftloom(), 1, loom -> loom.append(0, Integer.MIN_VALUE, 0, 0, 0));
        Edge.answers("44: one, the least significant", new Manyshiftloom(), 1, loom -> loom.append(0, 0, 0, 0, 1));
        Edge.answers("44: all 20", new Manyshiftloom(), 20, loom -> loom.append(-1, -1, -1, -1, -1));
        Edge.answers("44: 0 between two", new Manyshiftloom(), 2, loom -> loom.append(0x20002000, 0, 0, 0, 0));
        for (int place = 0; place < 20; place++) {
            int[] ints = new int[5];
            ints[place / 4] = 0xff << 24 - place % 4 * 8;
            Manyshiftloom loom = new Manyshiftloom();
            Check.same("44: the byte " + place, loom.append(ints[0], ints[1], ints[2], ints[3], ints[4]), 1);
        }
        Manyshiftloom order = Looms.alike(8);
        order.append(0x37360000, 0x00350034, 0x33, 0x32000000, 0x00310030);
        order.read();
        Check.same("44: in the order of the parameters", Looms.row(order), "76543210");
    }

    /** "Throws IllegalStateException if the tape would have more than 60 bytes". */
    private static void appendFull() {
        Edge.answers("44: 60 bytes", blanks(new Manyshiftloom(), 59), 60, loom -> loom.append(0, 0, 0x20, 0, 0));
        Edge.answers("44: 20 on 40", blanks(new Manyshiftloom(), 40), 60, loom -> loom.append(-1, -1, -1, -1, -1));
        Edge.answers("44: nothing on 60", blanks(new Manyshiftloom(), 60), 60, loom -> loom.append(0, 0, 0, 0, 0));
        Supplier<Manyshiftloom> full = () -> blanks(new Manyshiftloom(), 60);
        Supplier<Manyshiftloom> nearly = () -> blanks(Looms.single(0, 0, 1), 59);
        Supplier<Manyshiftloom> less = () -> blanks(new Manyshiftloom(), 41);
        Edge.refuses("44: one on 60", full, Edge.STATE, loom -> loom.append(0, 0, 0, 0, 0x20));
        Edge.refuses("44: 20 on 60", full, Edge.STATE, loom -> loom.append(-1, -1, -1, -1, -1));
        Edge.refuses("44: 20 on 41", less, Edge.STATE, loom -> loom.append(-1, -1, -1, -1, -1));
        Edge.refuses("44: two on 59: not even the one that had room", nearly, Edge.STATE,
                loom -> loom.append('0' << 24, 0, 0, 0, 0x20));
        Edge.refuses("44: two on 59 in one parameter", nearly, Edge.STATE, loom -> loom.append(0, 0x3020, 0, 0, 0));
        Manyshiftloom again = blanks(new Manyshiftloom(), 60);
        again.clearTape();
        Check.same("44: it is empty, so there is room", again.append(-1, -1, -1, -1, -1), 20);
        Manyshiftloom read = blanks(new Manyshiftloom(), 60);
        read.read();
        Check.same("44: it was read, so there is room", read.append(-1, -1, -1, -1, -1), 20);
    }

    private static void clearTape() {
        Edge.answers("45: empty", new Manyshiftloom(), 0, Manyshiftloom::clearTape);
        Edge.answers("45: full", blanks(new Manyshiftloom(), 60), 60, Manyshiftloom::clearTape);
        Manyshiftloom loom = blanks(new Manyshiftloom(), 60);
        loom.clearTape();
        Check.same("45: it is empty now", loom.clearTape(), 0);
        Check.same("45: what is read then has no error", loom.read(), true);
    }

    private static void readFits() {
        Edge.answers("46: nothing, without orders", new Manyshiftloom(), true, Manyshiftloom::read);
        Edge.answers("46: nothing, without works", Looms.bare(8), true, Manyshiftloom::read);
        Edge.answers("46: blanks alone, without works", blanks(Looms.bare(8), 60), true, Manyshiftloom::read);
        Edge.answers("46: it has no times", Looms.withoutTimes(), false, loom -> Looms.read(loom, "0"));
        Edge.answers("46: it has times", Looms.gap(), true, loom -> Looms.read(loom, "10"));
        String[] texts = {"001", " 001", "\n001", "001 ", "001\n", "0 0\n1", "0 \n 0 \n 1", "\n \n001\n \n"};
        for (String text : texts) {
            Manyshiftloom loom = Looms.two();
            loom.move(2, 0);
            Check.same("46: blanks between, ahead and behind", Looms.read(loom, text), true);
            Check.same("46: the row", Looms.row(loom), "001");
            Check.same("46: the tape is empty", loom.clearTape(), 0);
        }
    }

    private static void readOfTheLongest() {
        Manyshiftloom loom = Looms.full();
        StringBuilder text = new StringBuilder();
        for (int place = 15; place >= 0; place--) {
            text.append(place / 2).append(place % 2 == 0 ? " \n" : "\n ");
        }
        Check.same("46: 48 bytes", Looms.tape(loom, text.toString()), 48);
        blanks(loom, 12);
        Check.same("46: 60 bytes with 16 digits", loom.read(), true);
        Check.same("46: their row", Looms.row(loom), "7766554433221100");
    }

    private static void error(String what, Supplier<Manyshiftloom> maker, String text, int position) {
        Manyshiftloom loom = maker.get();
        Looms.tape(loom, text);
        Check.raisesArgument("46: " + what, loom::read);
        Check.same("47: " + what, loom.errorPosition(), position);
        Check.same("46: " + what + ": the tape is empty", loom.clearTape(), 0);
    }

    /** "The first byte that does not fit is an error: [...]; if a place lacks, the length is told." */
    private static void readErrors() {
        Supplier<Manyshiftloom> two = Looms::two;
        error("another byte ahead", two, "x001", 0);
        error("another byte between", two, "00x1", 2);
        error("another byte behind", two, "001x", 3);
        error("the byte below the digits", two, "/001", 0);
        error("the byte above the digits", two, ":001", 0);
        error("a digit of no order", two, "2", 0);
        error("the greatest digit", two, "0019", 3);
        error("once too often", two, "000", 2);
        error("once too often, the other one", two, "101", 2);
        error("once too often, all are there", two, "0010", 3);
        error("once too often, behind blanks", two, "001 \n 1", 6);
        error("a place lacks", two, "00", 2);
        error("a place lacks, blanks behind", two, "00 \n\n ", 6);
        error("each place lacks", two, "", 0);
        error("each place lacks, blanks alone", two, " ", 1);
        error("the first of two errors", two, "0x9", 1);
        error("an error ahead of a place that lacks", two, "9", 0);
        error("a digit, but no orders", NEW, "0", 0);
        error("an order without works", () -> Looms.bare(1), "0", 0);
        error("no orders, another byte", NEW, " \n\t", 2);
        error("the length of a full tape", () -> blanks(Looms.two(), 60), "", 60);
        error("the last byte of a full tape", () -> blanks(Looms.two(), 59), "x", 59);
        error("the digit 8", Looms::full, "8", 0);
        error("the sixteenth place lacks", Looms::full, "001122334455667", 15);
        for (int order = 0; order < 8; order++) {
            String digit = String.valueOf(order);
            error("once too often, order " + order, Looms::full, digit + " " + digit + digit, 3);
            error("once too often behind the others, order " + order, Looms::full, "0011223344556677" + digit, 16);
        }
    }

    /** "a call that throws an exception changes nothing, except that read() empties the tape [...]". */
    private static void readRefused() {
        for (String text : new String[] {"", "x", "9", "00 ", "0000"}) {
            Supplier<Manyshiftloom> maker = () -> {
                Manyshiftloom loom = Looms.rich();
                loom.clearTape();
                Looms.tape(loom, text);
                return loom;
            };
            Check.raisesArgument("46: " + text, () -> maker.get().read());
            Supplier<Manyshiftloom> tried = () -> Edge.tried(maker.get(), Manyshiftloom::read);
            Check.same("46: nothing else is changed by " + text, Whole.all(tried), Whole.all(maker));
            Check.same("46: the tape is empty", tried.get().clearTape(), 0);
        }
    }

    /** Each byte that can stand on a tape, alone, on a loom with 8 orders of one work. */
    private static void readOfAllBytes() {
        for (int sign = 1; sign < 256; sign++) {
            Manyshiftloom loom = Looms.alike(8);
            loom.append(sign << 24, 0, 0, 0, 0);
            Check.raisesArgument("46: the byte " + sign, loom::read);
            boolean fits = sign == 32 || sign == 10 || sign >= '0' && sign <= '7';
            Check.same("47: the byte " + sign, loom.errorPosition(), fits ? 1 : 0);
        }
    }

    private static void errorPosition() {
        Edge.answers("47: there was no read", Looms.two(), -1, Manyshiftloom::errorPosition);
        Manyshiftloom loom = Looms.two();
        Looms.tape(loom, "00 9");
        Check.same("47: what is on the tape was not read", loom.errorPosition(), -1);
        Check.raisesArgument("47: it is read", loom::read);
        Check.same("47: the position", loom.errorPosition(), 3);
        Looms.tape(loom, "1");
        loom.clearTape();
        Check.same("47: it stays until the next read", loom.errorPosition(), 3);
        loom.undo();
        Check.same("47: undo leaves it", loom.errorPosition(), 3);
        Check.raisesArgument("47: the next read", loom::read);
        Check.same("47: its position", loom.errorPosition(), 0);
        Manyshiftloom fits = Looms.two();
        Check.raisesArgument("47: a read with an error", fits::read);
        Looms.read(fits, "100");
        Check.same("47: NONE if the text had no error", fits.errorPosition(), -1);
        fits.undo();
        Check.same("47: undo leaves NONE", fits.errorPosition(), -1);
    }

    private static void write() {
        Edge.answers("48: without orders", new Manyshiftloom(), 0, Manyshiftloom::write);
        Edge.answers("48: without works", Looms.bare(8), 0, Manyshiftloom::write);
        Edge.answers("48: the most", Looms.full(), 16, Manyshiftloom::write);
        Edge.answers("48: without times", Looms.gap(), 2, Manyshiftloom::write);
        Manyshiftloom loom = Looms.full();
        loom.write();
        Check.same("48: the last sign", (int) loom.writtenAt(15), '7');
        for (int left = 7; left > 0; left--) {
            loom.drop(0);
        }
        Check.same("48: in place of what was written", loom.write(), 2);
        Check.raisesIndex("48: nothing is left of that", () -> loom.writtenAt(2));
    }

    private static Manyshiftloom written(Manyshiftloom loom) {
        loom.write();
        return loom;
    }

    private static void writtenAt() {
        Edge.within("49: index", () -> written(Looms.two()), 0, 2, Edge.INDEX, (loom, n) -> loom.writtenAt(n));
        Edge.within("49: index of 16", () -> written(Looms.full()), 0, 15, Edge.INDEX, (loom, n) -> loom.writtenAt(n));
        Edge.outside("49: nothing was written", Looms::two, 0, -1, Edge.INDEX, (loom, n) -> loom.writtenAt(n));
        Edge.outside("49: no signs were written", () -> written(Looms.bare(8)), 0, -1, Edge.INDEX,
                (loom, n) -> loom.writtenAt(n));
        Manyshiftloom loom = written(Looms.two());
        loom.drop(0);
        Check.same("49: what was written last stays", (int) loom.writtenAt(2), '1');
        loom.undo();
        Check.same("49: undo leaves it", (int) loom.writtenAt(2), '1');
        Manyshiftloom undone = Looms.two();
        undone.move(2, 0);
        undone.write();
        undone.undo();
        Check.same("49: undo does not write", (int) undone.writtenAt(0), '1');
    }
}
