/** Promise 2, broadly: bump at every number, and over every kind of invalid cell. */
public final class BumpTest {
    public static void main(String[] args) {
        everyNumberInTurn();
        anyInvalidCellStopsIt();
        everyInvalidCodeStopsIt();
        goesOnAfterRepair();
        Check.end();
    }

    /** Twice round, so that the counter is also seen after a wrap-around. */
    private static void everyNumberInTurn() {
        BiQuinary x = new BiQuinary();
        for (int i = 0; i < 20000; i++) {
            int before = i % 10000;
            Check.due("bump() at " + before, x.bump(), cellsChanged(before));
            int after = (before + 1) % 10000;
            Check.dueCells("after bump() at " + before, x, Check.codesOf(after));
            Check.due("value() after bump() at " + before, x.value(), after);
            Check.due("faulty() after bump() at " + before, x.faulty(), -1);
        }
    }

    private static int cellsChanged(int number) {
        if (number % 10 != 9) {
            return 1;
        }
        if (number % 100 != 99) {
            return 2;
        }
        return number % 1000 != 999 ? 3 : 4;
    }

    /** Every set of invalid cells, over numbers whose carry ends below, at and above them. */
    private static void anyInvalidCellStopsIt() {
        int[] numbers = {0, 4, 9, 99, 999, 1234, 9990, 9999};
        int[] invalid = {0x00, 0x20, 0x01, 0x61, 0x51, 0x7f};
        for (int number : numbers) {
            for (int set = 1; set < 16; set++) {
                for (int code : invalid) {
                    int[] codes = Check.codesOf(number);
                    for (int cell = 0; cell < 4; cell++) {
                        codes[cell] = (set >> cell & 1) == 1 ? code : codes[cell];
                    }
                    dueStopped(codes);
                }
            }
        }
    }

    private static void everyInvalidCodeStopsIt() {
        for (int cell = 0; cell < 4; cell++) {
            for (int code = 0; code < 128; code++) {
                if (Check.digit(code) < 0) {
                    int[] codes = Check.codesOf(5099);
                    codes[cell] = code;
                    dueStopped(codes);
                }
            }
        }
    }

    private static void dueStopped(int[] codes) {
        BiQuinary x = Check.holding(codes);
        String cells = Check.text(codes);
        Check.due("bump() over " + cells, x.bump(), 0);
        Check.dueCells("after bump() over " + cells, x, codes);
        Check.due("second bump() over " + cells, x.bump(), 0);
    }

    private static void goesOnAfterRepair() {
        BiQuinary x = Check.holding(Check.codesOf(1299));
        x.strike(3, 0);
        Check.due("bump() with cell 3 struck", x.bump(), 0);
        x.strike(3, 0);
        Check.due("bump() after repair", x.bump(), 3);
        Check.due("value() after repair", x.value(), 1300);
    }
}
