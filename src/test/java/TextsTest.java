/** Promises 44 to 49: texts. */
public final class TextsTest {
    public static void main(String[] args) {
        append();
        clearTape();
        read();
        readErrors();
        write();
        Check.close();
    }

    private static void append() {
        Manyshiftloom loom = Looms.alike(8);
        Check.same("44: nothing", loom.append(0, 0, 0, 0, 0), 0);
        Check.same("44: zeros are left out", loom.append(0x30003100, 0x00320033, 0, 0x34, 0x35000000), 6);
        Check.same("44: more", loom.append(0x36, 0x37, 0, 0, 0), 8);
        loom.read();
        Check.same("44: in their order", Looms.row(loom), "01234567");
        for (int part = 0; part < 3; part++) {
            loom.append(-1, -1, -1, -1, -1);
        }
        Check.raisesState("44: 61 bytes", () -> loom.append(0, 0, 1, 0, 0));
        Check.raisesState("44: 80 bytes", () -> loom.append(-1, -1, -1, -1, -1));
        Check.same("44: nothing more", loom.append(0, 0, 0, 0, 0), 60);
        loom.clearTape();
        for (int part = 0; part < 59; part++) {
            loom.append(0, 0x20000000, 0, 0, 0);
        }
        Check.raisesState("44: 61", () -> loom.append(0x2020, 0, 0, 0, 0));
        Check.raisesState("44: 61", () -> loom.append(0, 0x2020, 0, 0, 0));
        Check.raisesState("44: 61", () -> loom.append(0, 0, 0x2020, 0, 0));
        Check.raisesState("44: 61", () -> loom.append(0, 0, 0, 0x2020, 0));
        Check.raisesState("44: 61", () -> loom.append(0, 0, 0, 0, 0x2020));
        Check.raisesState("44: 61", () -> loom.append(0x20, 0, 0, 0, 0x20));
        Check.same("44: 60", loom.append(0, 0, 0, 0, 0x20), 60);
    }

    private static void clearTape() {
        Manyshiftloom loom = Looms.two();
        Check.same("45: empty", loom.clearTape(), 0);
        Looms.tape(loom, "9");
        Check.raisesArgument("45: error", loom::read);
        Looms.tape(loom, "001");
        Check.same("45: three", loom.clearTape(), 3);
        Check.same("45: empty again", loom.clearTape(), 0);
        Check.same("45: the error position stays", loom.errorPosition(), 0);
        Check.raisesArgument("45: nothing to read", loom::read);
    }

    private static void read() {
        Manyshiftloom loom = Looms.two();
        Check.same("46: digits", Looms.read(loom, "010"), true);
        Check.same("46: row", Looms.row(loom), "010");
        Check.same("46: times", loom.begin(0, 1), 6);
        Check.same("47: no error", loom.errorPosition(), -1);
        Check.same("46: the tape is empty", loom.clearTape(), 0);
        Check.same("46: blanks", Looms.read(loom, " \n 1\n\n0 0\n "), true);
        Check.same("46: row", Looms.row(loom), "100");
        Check.same("46: no works", new Manyshiftloom().read(), true);
        Check.same("46: no works, blanks", Looms.read(new Manyshiftloom(), " \n"), true);
        Manyshiftloom none = Looms.withoutTimes();
        Check.same("46: no times", Looms.read(none, "0"), false);
        Check.same("47: that is no error", none.errorPosition(), -1);
    }

    private static void error(String text, int position) {
        Manyshiftloom loom = Looms.two();
        Looms.read(loom, "100");
        loom.keep(0);
        Looms.tape(loom, text);
        Check.raisesArgument("46: " + text, loom::read);
        Check.same("47: " + text, loom.errorPosition(), position);
        Check.same("46: the row stays", Looms.row(loom), "100");
        Check.same("46: the tape is empty", loom.clearTape(), 0);
        Check.same("50: no change", loom.undo(), 6);
        Check.same("47: not undone", loom.errorPosition(), position);
        Looms.read(loom, "001");
        Check.same("47: the latest read", loom.errorPosition(), -1);
    }

    private static void readErrors() {
        error("", 0);
        error("00", 2);
        error("00 \n", 4);
        error("0010", 3);
        error("000", 2);
        error("11", 1);
        error("0021", 2);
        error("00\t1", 2);
        error("00/1", 2);
        error("00:1", 2);
        error("-001", 0);
        error("001x", 3);
        error(" 0 9", 3);
        error("00\u00b1", 2);
        error("00\u00ff", 2);
        Manyshiftloom loom = new Manyshiftloom();
        Check.same("47: there was no read", loom.errorPosition(), -1);
        loom.order(0, 1, 0, 0, 1);
        Looms.tape(loom, "0");
        Check.raisesArgument("46: an order without works", loom::read);
        Check.same("47: an order without works", loom.errorPosition(), 0);
        Manyshiftloom less = Looms.two();
        less.drop(1);
        Looms.tape(less, " 001");
        Check.raisesArgument("46: an order that went", less::read);
        Check.same("47: an order that went", less.errorPosition(), 3);
        Manyshiftloom full = Looms.alike(8);
        Looms.tape(full, "76543218");
        Check.raisesArgument("46: the digit 8", full::read);
        Check.same("47: the digit 8", full.errorPosition(), 7);
    }

    private static String written(Manyshiftloom loom, int length) {
        StringBuilder text = new StringBuilder();
        for (int index = 0; index < length; index++) {
            text.append(loom.writtenAt(index));
        }
        Check.raisesIndex("49: behind the last", () -> loom.writtenAt(length));
        Check.raisesIndex("49: -1", () -> loom.writtenAt(-1));
        return text.toString();
    }

    private static void write() {
        Manyshiftloom loom = Looms.two();
        Check.raisesIndex("49: nothing was written", () -> loom.writtenAt(0));
        Check.same("48: three signs", loom.write(), 3);
        Check.same("49: signs", written(loom, 3), "001");
        loom.move(2, 0);
        Check.same("49: as it was written", written(loom, 3), "001");
        loom.write();
        Check.same("48: in place of what was written", written(loom, 3), "100");
        loom.drop(0);
        loom.write();
        Check.same("48: fewer signs", written(loom, 1), "0");
        loom.drop(0);
        Check.same("48: none", loom.write(), 0);
        written(loom, 0);
        Manyshiftloom many = Looms.alike(8);
        for (int order = 0; order < 8; order++) {
            many.work(order, 1, 1, -1);
        }
        Check.same("48: 16 signs", many.write(), 16);
        Check.same("49: 16 signs", written(many, 16), "0011223344556677");
        Check.same("48: without times", Looms.withoutTimes().write(), 1);
    }
}
