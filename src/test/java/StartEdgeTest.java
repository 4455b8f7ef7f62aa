/** Promise 1, edge by edge: the empty counter. */
public final class StartEdgeTest {
    public static void main(String[] args) {
        allCellsHoldZero();
        valueAnswersZero();
        faultyAnswersNone();
        Check.end();
    }

    /** Flipping the two set bits must leave nothing, so no third bit can hide. */
    private static void allCellsHoldZero() {
        Check.sentence("on a fresh object all four cells hold the code 0x21");
        for (int cell = 0; cell < 4; cell++) {
            BiQuinary x = new BiQuinary();
            Check.due("first strike(" + cell + ", 0)", x.strike(cell, 0), 0x20);
            Check.due("then strike(" + cell + ", 5)", x.strike(cell, 5), 0);
        }
    }

    private static void valueAnswersZero() {
        Check.sentence("the number held is 0000: value() answers 0");
        Check.due("value() as the first call", new BiQuinary().value(), 0);
    }

    private static void faultyAnswersNone() {
        Check.sentence("all four cells are therefore valid: faulty() answers -1");
        Check.due("faulty() as the first call", new BiQuinary().faulty(), -1);
        Check.due("bump() as the first call", new BiQuinary().bump(), 1);
    }
}
