/** Promise 2, edge by edge: refusals, carries and the wrap-around. */
public final class BumpEdgeTest {
    private static final int[] NEARLY_VALID = {0x00, 0x10, 0x40, 0x70, 0x51, 0x7f};

    public static void main(String[] args) {
        refusedWhicheverCell();
        refusedHoweverMany();
        refusedAboveTheCarry();
        refusedCallChangesNothing();
        nineBecomesZeroAndCarries();
        firstOtherCellTakesOneMore();
        cellsAboveKeepTheirCodes();
        rowOneCell();
        rowTwoCells();
        rowThreeCells();
        rowFourCells();
        wrapAround();
        carryOutIsDropped();
        fourToFive();
        allValidAfterwards();
        Check.end();
    }

    private static void refusedWhicheverCell() {
        Check.sentence("any of the four cells is invalid, whichever it is: answers 0");
        for (int cell = 0; cell < 4; cell++) {
            for (int code : NEARLY_VALID) {
                dueRefused(Check.with(Check.codesOf(0), cell, code));
                dueRefused(Check.with(Check.codesOf(9999), cell, code));
            }
        }
    }

    private static void refusedHoweverMany() {
        Check.sentence("any of the four cells is invalid, however many there are: answers 0");
        dueRefused(0x00, 0x7f, 0x21, 0x21);
        dueRefused(0x50, 0x00, 0x50, 0x7f);
        dueRefused(0x7f, 0x00, 0x20, 0x50);
        dueRefused(0x00, 0x00, 0x00, 0x00);
        dueRefused(0x7f, 0x7f, 0x7f, 0x7f);
    }

    private static void refusedAboveTheCarry() {
        Check.sentence("even when the invalid cell lies above the place where the carry would have stopped");
        dueRefused(0x21, 0x00, 0x21, 0x21);
        dueRefused(0x48, 0x21, 0x61, 0x21);
        dueRefused(0x30, 0x21, 0x21, 0x01);
        dueRefused(0x50, 0x21, 0x23, 0x21);
        dueRefused(0x50, 0x30, 0x21, 0x20);
        dueRefused(0x50, 0x50, 0x48, 0x7f);
    }

    /** Seen by mending the cell: the number must be the one from before the refused calls. */
    private static void refusedCallChangesNothing() {
        Check.sentence("answers 0 and changes nothing");
        for (int cell = 0; cell < 4; cell++) {
            BiQuinary x = Check.holding(Check.codesOf(9999));
            x.strike(cell, 4);
            Check.due("bump() with cell " + cell + " struck", x.bump(), 0);
            Check.due("second bump() with cell " + cell + " struck", x.bump(), 0);
            Check.due("faulty() after refused calls", x.faulty(), cell);
            Check.due("strike(" + cell + ", 4)", x.strike(cell, 4), 0x50);
            Check.due("value() with cell " + cell + " mended", x.value(), 9999);
        }
    }

    private static void nineBecomesZeroAndCarries() {
        Check.sentence("a cell holding 9 (0x50) becomes 0x21 and the carry goes on to the next higher cell");
        dueBump(cells(0x50, 0x21, 0x21, 0x21), 2, cells(0x21, 0x22, 0x21, 0x21));
        dueBump(cells(0x50, 0x50, 0x21, 0x21), 3, cells(0x21, 0x21, 0x22, 0x21));
        dueBump(cells(0x50, 0x50, 0x50, 0x21), 4, cells(0x21, 0x21, 0x21, 0x22));
    }

    private static void firstOtherCellTakesOneMore() {
        Check.sentence("the first cell not holding 9 takes the code of its digit plus one");
        for (int cell = 0; cell < 4; cell++) {
            for (int digit = 0; digit < 9; digit++) {
                int[] before = cells(0x21, 0x21, 0x21, 0x21);
                int[] after = cells(0x21, 0x21, 0x21, 0x21);
                for (int lower = 0; lower < cell; lower++) {
                    before[lower] = 0x50;
                }
                before[cell] = Check.CODES[digit];
                after[cell] = Check.CODES[digit + 1];
                dueBump(before, cell + 1, after);
            }
        }
    }

    /** The cells above hold 9 as well: only a carry may touch them. */
    private static void cellsAboveKeepTheirCodes() {
        Check.sentence("the ripple stops there; all cells above that cell keep their codes");
        dueBump(Check.codesOf(9990), 1, Check.codesOf(9991));
        dueBump(Check.codesOf(9998), 1, Check.codesOf(9999));
        dueBump(Check.codesOf(9989), 2, Check.codesOf(9990));
        dueBump(Check.codesOf(9909), 2, Check.codesOf(9910));
        dueBump(Check.codesOf(9899), 3, Check.codesOf(9900));
        dueBump(Check.codesOf(4990), 1, Check.codesOf(4991));
    }

    private static void rowOneCell() {
        Check.sentence("cell 0 does not hold 9: 1, cell 0 only");
        dueBump(Check.codesOf(0), 1, Check.codesOf(1));
        dueBump(Check.codesOf(8), 1, Check.codesOf(9));
        dueBump(Check.codesOf(6543), 1, Check.codesOf(6544));
    }

    private static void rowTwoCells() {
        Check.sentence("cell 0 holds 9, cell 1 does not: 2, cells 0 and 1");
        dueBump(Check.codesOf(9), 2, Check.codesOf(10));
        dueBump(Check.codesOf(89), 2, Check.codesOf(90));
        dueBump(Check.codesOf(7629), 2, Check.codesOf(7630));
    }

    private static void rowThreeCells() {
        Check.sentence("cells 0 and 1 hold 9, cell 2 does not: 3, cells 0, 1 and 2");
        dueBump(Check.codesOf(99), 3, Check.codesOf(100));
        dueBump(Check.codesOf(899), 3, Check.codesOf(900));
        dueBump(Check.codesOf(3199), 3, Check.codesOf(3200));
    }

    private static void rowFourCells() {
        Check.sentence("cells 0, 1 and 2 hold 9, cell 3 does not: 4, all four cells");
        dueBump(Check.codesOf(999), 4, Check.codesOf(1000));
        dueBump(Check.codesOf(8999), 4, Check.codesOf(9000));
        dueBump(Check.codesOf(5999), 4, Check.codesOf(6000));
    }

    private static void wrapAround() {
        Check.sentence("all four hold 9: 4, all four cells become 0x21");
        dueBump(cells(0x50, 0x50, 0x50, 0x50), 4, cells(0x21, 0x21, 0x21, 0x21));
    }

    private static void carryOutIsDropped() {
        Check.sentence("9999 becomes 0000, and the carry out of cell 3 is dropped");
        BiQuinary x = Check.holding(Check.codesOf(9998));
        Check.due("bump() at 9998", x.bump(), 1);
        Check.due("value() before the wrap-around", x.value(), 9999);
        Check.due("bump() at 9999", x.bump(), 4);
        Check.due("value() after the wrap-around", x.value(), 0);
        Check.due("bump() after the wrap-around", x.bump(), 1);
        Check.due("value() one later", x.value(), 1);
    }

    private static void fourToFive() {
        Check.sentence("from digit 4 to digit 5 goes from 0x30 to 0x41 and counts as one changed cell");
        dueBump(cells(0x30, 0x21, 0x21, 0x21), 1, cells(0x41, 0x21, 0x21, 0x21));
        dueBump(cells(0x50, 0x30, 0x21, 0x21), 2, cells(0x21, 0x41, 0x21, 0x21));
        dueBump(cells(0x50, 0x50, 0x30, 0x21), 3, cells(0x21, 0x21, 0x41, 0x21));
        dueBump(cells(0x50, 0x50, 0x50, 0x30), 4, cells(0x21, 0x21, 0x21, 0x41));
    }

    private static void allValidAfterwards() {
        Check.sentence("after a call that answered 1 to 4, all four cells are valid");
        BiQuinary x = new BiQuinary();
        for (int call = 1; call <= 10001; call++) {
            int answer = x.bump();
            Check.due("bump() " + call + " answers 1 to 4 (1 is yes)", answer >= 1 && answer <= 4 ? 1 : 0, 1);
            Check.due("faulty() after bump() " + call, x.faulty(), -1);
        }
    }

    private static int[] cells(int... codes) {
        return codes;
    }

    private static void dueRefused(int... codes) {
        dueBump(codes, 0, codes);
    }

    private static void dueBump(int[] before, int answer, int[] after) {
        BiQuinary x = Check.holding(before);
        String call = "bump() over " + Check.text(before);
        Check.due(call, x.bump(), answer);
        Check.dueCells("after " + call, x, after);
    }
}
