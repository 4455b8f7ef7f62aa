/** What the tests share: the document's table of codes, a way to read and set cells, and the count of wrong answers. */
final class Check {
    /** The document's table, written out so that the tests don't repeat the program's arithmetic. */
    static final int[] CODES = {0x21, 0x22, 0x24, 0x28, 0x30, 0x41, 0x42, 0x44, 0x48, 0x50};

    private static final int SHOWN = 20;
    private static int wrong = 0;
    private static int shown = 0;
    private static int sentences = 0;
    private static String sentence = "";

    private static final long PATIENCE_MILLIS = 60_000;

    /** A call that never returns must fail its test, not stop the whole run. */
    static {
        Thread watch = new Thread(Check::endIfStillRunning);
        watch.setDaemon(true);
        watch.start();
    }

    private Check() {
    }

    private static void endIfStillRunning() {
        try {
            Thread.sleep(PATIENCE_MILLIS);
        } catch (InterruptedException e) {
            return;
        }
        System.out.println(sentence + "a call has not returned");
        Runtime.getRuntime().halt(1);
    }

    /** Names the sentence of the document that the answers from here on belong to. */
    static void sentence(String text) {
        sentences++;
        sentence = "\"" + text + "\": ";
        shown = 0;
    }

    static void due(String call, long got, long want) {
        if (got == want) {
            return;
        }
        wrong++;
        shown++;
        if (shown <= SHOWN) {
            System.out.println(sentence + call + " answered " + got + ", due is " + want);
        }
    }

    static void end() {
        String count = sentences == 0 ? "" : sentences + " sentences: ";
        System.out.println(count + (wrong == 0 ? "all answers are as due" : wrong + " answers are not as due"));
        if (wrong != 0) {
            System.exit(1);
        }
    }

    /** The digit of a code by the document's table, or -1 for an invalid one. */
    static int digit(int code) {
        for (int d = 0; d < CODES.length; d++) {
            if (CODES[d] == code) {
                return d;
            }
        }
        return -1;
    }

    /** A strike tells the new code, so a second one on the same bit tells the code that was there before. */
    static int read(BiQuinary x, int cell) {
        x.strike(cell, 0);
        return x.strike(cell, 0);
    }

    static void dueCells(String when, BiQuinary x, int... want) {
        for (int cell = 0; cell < 4; cell++) {
            due(when + ": code of cell " + cell, read(x, cell), want[cell]);
        }
    }

    static void set(BiQuinary x, int cell, int code) {
        int flips = read(x, cell) ^ code;
        for (int bit = 0; bit < 7; bit++) {
            if ((flips >> bit & 1) == 1) {
                x.strike(cell, bit);
            }
        }
        due("setting cell " + cell, read(x, cell), code);
    }

    /** An object whose cells hold these codes, cell 0 first. */
    static BiQuinary holding(int... codes) {
        BiQuinary x = new BiQuinary();
        for (int cell = 0; cell < 4; cell++) {
            set(x, cell, codes[cell]);
        }
        return x;
    }

    /** The four cells of a number, cell 0 first. */
    static int[] codesOf(int number) {
        return new int[] {CODES[number % 10], CODES[number / 10 % 10], CODES[number / 100 % 10], CODES[number / 1000]};
    }

    static int[] with(int[] codes, int cell, int code) {
        int[] changed = codes.clone();
        changed[cell] = code;
        return changed;
    }

    static String text(int[] codes) {
        StringBuilder text = new StringBuilder("cells");
        for (int code : codes) {
            text.append(String.format(" 0x%02x", code));
        }
        return text.toString();
    }
}
