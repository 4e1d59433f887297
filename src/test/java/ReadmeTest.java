/** The example of README.md, call by call, with the answers that stand there. */
public final class ReadmeTest {
    public static void main(String[] args) {
        Manyshiftloom loom = new Manyshiftloom();
        int jacket = loom.order(0, 2, 0, 10, 1);
        Check.same("2: the first order", jacket, 0);
        Check.same("3: its first work", loom.work(jacket, 0, 3, Manyshiftloom.NONE), 1);
        Check.same("3: its second work", loom.work(jacket, 1, 2, Manyshiftloom.NONE), 2);
        int shirt = loom.order(1, 1, 0, 5, 2);
        Check.same("2: the second order", shirt, 1);
        Check.same("3: its work", loom.work(shirt, 0, 5, Manyshiftloom.NONE), 1);
        Check.same("12: the works that begin at other times", loom.rest(0, 2, 4), 3);
        Check.same("16: by the least day due", loom.plan(3), true);
        Check.same("21: its end", loom.end(), 19);
        Check.same("39: by how much the end became less", loom.improve(), 4);
        Check.same("26: the least end", loom.least(), 15);
        Check.same("19: when the work begins", loom.begin(shirt, 0), 10);
        Check.same("36: the cost", loom.cost(), 24L);
        Check.same("50: those that can still be undone", loom.undo(), 8);
        Check.close();
    }
}
