/** Promise 3, edge by edge: arguments out of range, and flips to and from validity. */
public final class StrikeEdgeTest {
    // Beside the nearest ones: values that a mask, a byte or a shift would take for one in range.
    private static final int[] NEGATIVE = {-1, -2, -4, -7, -26, -32, -128, -256, Integer.MIN_VALUE + 1, Integer.MIN_VALUE};
    private static final int[] FOUR_OR_MORE = {4, 5, 6, 7, 8, 32, 128, 256, 65536, Integer.MAX_VALUE};
    private static final int[] SEVEN_OR_MORE = {7, 8, 31, 32, 38, 64, 128, 256, 65536, Integer.MAX_VALUE};

    public static void main(String[] args) {
        negativeCell();
        cellOfFourOrMore();
        badCellWhateverBit();
        negativeBit();
        bitOfSevenOrMore();
        lastCellAndBitInRange();
        setBecomesClear();
        clearBecomesSet();
        othersDoNotChange();
        flipsAnInvalidCell();
        flipsBesideAnInvalidCell();
        answerZero();
        validBecomesInvalid();
        invalidBecomesValid();
        digitOfTheNewCode();
        documentsExample();
        twiceRestores();
        Check.end();
    }

    private static void negativeCell() {
        Check.sentence("cell is any negative value: answers -1 and changes nothing");
        for (int cell : NEGATIVE) {
            dueRefused(cell, 0, -1);
            dueRefused(cell, 6, -1);
        }
    }

    private static void cellOfFourOrMore() {
        Check.sentence("cell is any value of 4 or more: answers -1 and changes nothing");
        for (int cell : FOUR_OR_MORE) {
            dueRefused(cell, 0, -1);
            dueRefused(cell, 6, -1);
        }
    }

    private static void badCellWhateverBit() {
        Check.sentence("whatever bit is: when both arguments are out of range the answer is -1");
        for (int bit : NEGATIVE) {
            dueRefused(-1, bit, -1);
            dueRefused(4, bit, -1);
        }
        for (int bit : SEVEN_OR_MORE) {
            dueRefused(-1, bit, -1);
            dueRefused(4, bit, -1);
        }
    }

    private static void negativeBit() {
        Check.sentence("bit is any negative value: answers -2 and changes nothing");
        for (int bit : NEGATIVE) {
            dueRefused(0, bit, -2);
            dueRefused(3, bit, -2);
        }
    }

    private static void bitOfSevenOrMore() {
        Check.sentence("bit is any value of 7 or more: answers -2 and changes nothing");
        for (int bit : SEVEN_OR_MORE) {
            dueRefused(0, bit, -2);
            dueRefused(3, bit, -2);
        }
    }

    private static void lastCellAndBitInRange() {
        Check.sentence("cell in 0..3 and bit in 0..6: it flips");
        Check.due("strike(0, 0)", new BiQuinary().strike(0, 0), 0x20);
        Check.due("strike(0, 6)", new BiQuinary().strike(0, 6), 0x61);
        Check.due("strike(3, 0)", new BiQuinary().strike(3, 0), 0x20);
        Check.due("strike(3, 6)", new BiQuinary().strike(3, 6), 0x61);
    }

    private static void setBecomesClear() {
        Check.sentence("a set bit becomes clear");
        for (int bit = 0; bit < 7; bit++) {
            BiQuinary x = Check.holding(0x7f, 0x7f, 0x7f, 0x7f);
            Check.due("strike(1, " + bit + ") at 0x7f", x.strike(1, bit), 0x7f - (1 << bit));
        }
    }

    private static void clearBecomesSet() {
        Check.sentence("a clear bit becomes set");
        for (int bit = 0; bit < 7; bit++) {
            BiQuinary x = Check.holding(0, 0, 0, 0);
            Check.due("strike(2, " + bit + ") at 0", x.strike(2, bit), 1 << bit);
        }
    }

    private static void othersDoNotChange() {
        Check.sentence("the other six bits of that cell and all the other cells do not change");
        int[] codes = {0x50, 0x2a, 0x55, 0x21};
        for (int cell = 0; cell < 4; cell++) {
            for (int bit = 0; bit < 7; bit++) {
                BiQuinary x = Check.holding(codes);
                x.strike(cell, bit);
                int[] after = Check.with(codes, cell, codes[cell] ^ 1 << bit);
                Check.dueCells("after strike(" + cell + ", " + bit + ") over " + Check.text(codes), x, after);
            }
        }
    }

    private static void flipsAnInvalidCell() {
        Check.sentence("whether or not the cell is valid, and whether or not the resulting code is valid");
        dueFlip(0x21, 5, 0x01);
        dueFlip(0x01, 0, 0x00);
        dueFlip(0x00, 4, 0x10);
        dueFlip(0x10, 6, 0x50);
        dueFlip(0x7f, 6, 0x3f);
    }

    private static void flipsBesideAnInvalidCell() {
        Check.sentence("whether or not any other cell is valid");
        for (int cell = 0; cell < 4; cell++) {
            int[] codes = Check.with(new int[] {0x00, 0x7f, 0x60, 0x03}, cell, 0x21);
            BiQuinary x = Check.holding(codes);
            Check.due("strike(" + cell + ", 1) over " + Check.text(codes), x.strike(cell, 1), 0x23);
            Check.dueCells("after that", x, Check.with(codes, cell, 0x23));
        }
    }

    private static void answerZero() {
        Check.sentence("the answer 0 is possible: the cell now has no bit set");
        for (int cell = 0; cell < 4; cell++) {
            BiQuinary x = new BiQuinary();
            x.strike(cell, 0);
            Check.due("strike(" + cell + ", 5) at 0x20", x.strike(cell, 5), 0);
            Check.due("faulty() with cell " + cell + " empty", x.faulty(), cell);
            Check.due("strike(" + cell + ", 6) at 0", x.strike(cell, 6), 0x40);
        }
    }

    private static void validBecomesInvalid() {
        Check.sentence("a flip may make a valid cell invalid");
        for (int digit = 0; digit < 10; digit++) {
            for (int bit = 0; bit < 7; bit++) {
                BiQuinary x = Check.holding(0x21, Check.CODES[digit], 0x21, 0x21);
                x.strike(1, bit);
                Check.due("faulty() after strike(1, " + bit + ") at digit " + digit, x.faulty(), 1);
            }
        }
    }

    private static void invalidBecomesValid() {
        Check.sentence("a flip may make an invalid cell valid again");
        for (int digit = 0; digit < 10; digit++) {
            for (int bit = 0; bit < 7; bit++) {
                int code = Check.CODES[digit];
                BiQuinary x = Check.holding(0x21, 0x21, code ^ 1 << bit, 0x21);
                Check.due("strike(2, " + bit + ") to digit " + digit, x.strike(2, bit), code);
                Check.due("faulty() with cell 2 at digit " + digit, x.faulty(), -1);
            }
        }
    }

    private static void digitOfTheNewCode() {
        Check.sentence("the cell stands for the digit of that code, which need not be the digit it held earlier");
        BiQuinary x = Check.holding(Check.codesOf(1234));
        x.strike(3, 1);
        Check.due("strike(3, 4)", x.strike(3, 4), 0x30);
        Check.due("value() with cell 3 moved from 1 to 4", x.value(), 4234);
        x.strike(0, 5);
        Check.due("strike(0, 6)", x.strike(0, 6), 0x50);
        Check.due("value() with cell 0 moved from 4 to 9", x.value(), 4239);
        Check.due("bump() with cell 0 at 9", x.bump(), 2);
        Check.due("value() after bump()", x.value(), 4240);
    }

    private static void documentsExample() {
        Check.sentence("on a fresh object strike(0, 5) answers 0x01; strike(0, 6) after that answers 0x41");
        BiQuinary x = new BiQuinary();
        Check.due("strike(0, 5)", x.strike(0, 5), 1);
        Check.due("faulty() with cell 0 invalid", x.faulty(), 0);
        Check.due("strike(0, 6)", x.strike(0, 6), 65);
        Check.due("faulty() with cell 0 valid again", x.faulty(), -1);
        Check.due("value() with cell 0 at five", x.value(), 5);
    }

    private static void twiceRestores() {
        Check.sentence("flipping the same bit of the same cell twice in a row restores its code");
        for (int cell = 0; cell < 4; cell++) {
            for (int bit = 0; bit < 7; bit++) {
                BiQuinary x = Check.holding(Check.codesOf(9405));
                x.strike(cell, bit);
                x.strike(cell, bit);
                Check.due("value() after two of strike(" + cell + ", " + bit + ")", x.value(), 9405);
            }
        }
    }

    private static void dueFlip(int before, int bit, int after) {
        for (int cell = 0; cell < 4; cell++) {
            BiQuinary x = Check.holding(Check.with(Check.codesOf(0), cell, before));
            Check.due("strike(" + cell + ", " + bit + ") at " + before, x.strike(cell, bit), after);
        }
    }

    /** Once over a valid number and once over invalid cells. */
    private static void dueRefused(int cell, int bit, int answer) {
        dueRefusedOver(Check.codesOf(9470), cell, bit, answer);
        dueRefusedOver(new int[] {0x00, 0x7f, 0x61, 0x03}, cell, bit, answer);
    }

    private static void dueRefusedOver(int[] codes, int cell, int bit, int answer) {
        BiQuinary x = Check.holding(codes);
        String call = "strike(" + cell + ", " + bit + ")";
        Check.due(call, x.strike(cell, bit), answer);
        Check.dueCells("after " + call, x, codes);
    }
}
