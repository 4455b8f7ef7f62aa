/** Promises 4 and 5, edge by edge: the least and the greatest number, and which cell is told. */
public final class ReadEdgeTest {
    public static void main(String[] args) {
        valueOverAnInvalidCell();
        leastNumber();
        greatestNumber();
        weightsOfTheCells();
        valueChangesNothing();
        lowestInvalidCell();
        lastCellAlone();
        allValid();
        faultyChangesNothing();
        Check.end();
    }

    private static void valueOverAnInvalidCell() {
        Check.sentence("value: if any cell is invalid, it answers -1");
        int[] invalid = {0x00, 0x01, 0x20, 0x40, 0x61, 0x23, 0x7f};
        for (int cell = 0; cell < 4; cell++) {
            for (int code : invalid) {
                int[] codes = Check.with(Check.codesOf(0), cell, code);
                Check.due("value() over " + Check.text(codes), Check.holding(codes).value(), -1);
            }
        }
        Check.due("value() with all cells empty", Check.holding(0, 0, 0, 0).value(), -1);
        Check.due("value() with all bits set", Check.holding(0x7f, 0x7f, 0x7f, 0x7f).value(), -1);
    }

    private static void leastNumber() {
        Check.sentence("value: 0 to 9999 (the least)");
        Check.due("value() of four zeros", Check.holding(0x21, 0x21, 0x21, 0x21).value(), 0);
    }

    private static void greatestNumber() {
        Check.sentence("value: 0 to 9999 (the greatest)");
        Check.due("value() of four nines", Check.holding(0x50, 0x50, 0x50, 0x50).value(), 9999);
    }

    private static void weightsOfTheCells() {
        Check.sentence("value: cell 0, plus 10 times cell 1, plus 100 times cell 2, plus 1000 times cell 3");
        for (int digit = 0; digit < 10; digit++) {
            int code = Check.CODES[digit];
            Check.due("value() with " + digit + " in cell 0", Check.holding(code, 0x21, 0x21, 0x21).value(), digit);
            Check.due("value() with " + digit + " in cell 1", Check.holding(0x21, code, 0x21, 0x21).value(), 10 * digit);
            Check.due("value() with " + digit + " in cell 2", Check.holding(0x21, 0x21, code, 0x21).value(), 100 * digit);
            Check.due("value() with " + digit + " in cell 3", Check.holding(0x21, 0x21, 0x21, code).value(), 1000 * digit);
        }
        Check.due("value() of 1, 2, 3, 4 from cell 0 up", Check.holding(0x22, 0x24, 0x28, 0x30).value(), 4321);
    }

    private static void valueChangesNothing() {
        Check.sentence("value() changes nothing");
        for (int[] codes : states()) {
            BiQuinary x = Check.holding(codes);
            int first = x.value();
            Check.due("second value() over " + Check.text(codes), x.value(), first);
            Check.dueCells("after value()", x, codes);
        }
    }

    private static void lowestInvalidCell() {
        Check.sentence("faulty: at least one cell is invalid: the lowest index (0..3) of an invalid cell");
        for (int set = 1; set < 16; set++) {
            int[] codes = Check.codesOf(9999);
            for (int cell = 0; cell < 4; cell++) {
                codes[cell] = (set >> cell & 1) == 1 ? 0x70 : codes[cell];
            }
            int lowest = Integer.numberOfTrailingZeros(set);
            Check.due("faulty() over " + Check.text(codes), Check.holding(codes).faulty(), lowest);
        }
    }

    private static void lastCellAlone() {
        Check.sentence("faulty: the index 3, with all cells below valid");
        Check.due("faulty() with cell 3 empty", Check.holding(0x21, 0x21, 0x21, 0x00).faulty(), 3);
        Check.due("faulty() with cell 3 full", Check.holding(0x50, 0x50, 0x50, 0x7f).faulty(), 3);
    }

    private static void allValid() {
        Check.sentence("faulty: if all four cells are valid, it answers -1");
        Check.due("faulty() of four zeros", Check.holding(0x21, 0x21, 0x21, 0x21).faulty(), -1);
        Check.due("faulty() of four nines", Check.holding(0x50, 0x50, 0x50, 0x50).faulty(), -1);
        for (int digit = 0; digit < 10; digit++) {
            for (int cell = 0; cell < 4; cell++) {
                int[] codes = Check.with(Check.codesOf(0), cell, Check.CODES[digit]);
                Check.due("faulty() over " + Check.text(codes), Check.holding(codes).faulty(), -1);
            }
        }
    }

    private static void faultyChangesNothing() {
        Check.sentence("faulty() changes nothing");
        for (int[] codes : states()) {
            BiQuinary x = Check.holding(codes);
            int first = x.faulty();
            Check.due("second faulty() over " + Check.text(codes), x.faulty(), first);
            Check.dueCells("after faulty()", x, codes);
        }
    }

    private static int[][] states() {
        return new int[][] {
            Check.codesOf(0), Check.codesOf(9999), Check.codesOf(4050),
            {0x00, 0x21, 0x21, 0x21}, {0x50, 0x50, 0x50, 0x70}, {0x00, 0x7f, 0x60, 0x03}, {0, 0, 0, 0},
        };
    }
}
