/** Promises 4 and 5, broadly: every number, every code in every cell, every set of invalid cells. */
public final class ReadTest {
    public static void main(String[] args) {
        everyNumber();
        everyCodeInEveryCell();
        everySetOfInvalidCells();
        Check.end();
    }

    private static void everyNumber() {
        for (int number = 0; number < 10000; number++) {
            dueRead(Check.codesOf(number), number, -1);
        }
    }

    private static void everyCodeInEveryCell() {
        int[] weights = {1, 10, 100, 1000};
        for (int cell = 0; cell < 4; cell++) {
            for (int code = 0; code < 128; code++) {
                int[] codes = Check.codesOf(0);
                codes[cell] = code;
                int digit = Check.digit(code);
                dueRead(codes, digit < 0 ? -1 : digit * weights[cell], digit < 0 ? cell : -1);
            }
        }
    }

    private static void everySetOfInvalidCells() {
        int[] invalid = {0x00, 0x01, 0x20, 0x60, 0x1f, 0x61, 0x23, 0x7f};
        for (int set = 1; set < 16; set++) {
            for (int code : invalid) {
                int[] codes = Check.codesOf(9876);
                for (int cell = 0; cell < 4; cell++) {
                    codes[cell] = (set >> cell & 1) == 1 ? code : codes[cell];
                }
                dueRead(codes, -1, Integer.numberOfTrailingZeros(set));
            }
        }
    }

    /** Each is asked twice, and the cells are read after, since neither may change anything. */
    private static void dueRead(int[] codes, int value, int faulty) {
        BiQuinary x = Check.holding(codes);
        String cells = Check.text(codes);
        for (int time = 0; time < 2; time++) {
            Check.due("value() over " + cells, x.value(), value);
            Check.dueCells("after value()", x, codes);
            Check.due("faulty() over " + cells, x.faulty(), faulty);
            Check.dueCells("after faulty()", x, codes);
        }
    }
}
