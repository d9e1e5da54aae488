/** Counts the answers that are not as due, and reads THE RESULT of a printer. */
final class Checks {
    private static final int SHOWN = 20;
    // A print and its words are four calls at most, and an object serves 512.
    private static final int PRINTS_OF_AN_OBJECT = 128;

    private int wrong;
    private int asked;
    private int prints;
    private ShortestPrinter printer;

    void due(String call, Object got, Object want) {
        asked++;
        if (!got.equals(want)) {
            wrong++;
            if (wrong <= SHOWN) {
                System.out.println(call + " answered " + got + ", due is " + want);
            }
        }
    }

    void printed(long bits, String want) {
        renewPrinter();
        int length = printer.print(bits);
        due("print(" + bits + ")", length, want.length());
        due("text of print(" + bits + ")", text(printer, length), want);
    }

    void printedFloat(int bits, String want) {
        renewPrinter();
        int length = printer.printFloat(bits);
        due("printFloat(" + bits + ")", length, want.length());
        due("text of printFloat(" + bits + ")", text(printer, length), want);
    }

    void doubleIs(double x, String want) {
        printed(Double.doubleToRawLongBits(x), want);
    }

    void floatIs(float x, String want) {
        printedFloat(Float.floatToRawIntBits(x), want);
    }

    private void renewPrinter() {
        if (prints % PRINTS_OF_AN_OBJECT == 0) {
            printer = new ShortestPrinter();
        }
        prints++;
    }

    /** THE RESULT is this text: each of its bytes is one, and those around it are none. */
    void holds(String when, ShortestPrinter printer, String want) {
        due(when, text(printer, want.length()), want);
        refuses(when, printer, -1);
        refuses(when, printer, want.length());
    }

    void refuses(String when, ShortestPrinter printer, int i) {
        due(when + ", word(" + i + ")", wordOrThrown(printer, i), "IndexOutOfBoundsException");
    }

    /** Every byte that should be one of THE RESULT read by word, zeros among them told as #. */
    static String text(ShortestPrinter printer, int length) {
        StringBuilder text = new StringBuilder();
        for (int i = 0; i < length; i += 8) {
            long word;
            try {
                word = printer.word(i);
            } catch (RuntimeException thrown) {
                return text + " and word(" + i + ") throws " + thrown.getClass().getSimpleName();
            }
            for (int k = 0; k < 8; k++) {
                char letter = (char) (word >>> (56 - 8 * k) & 0xFF);
                if (i + k < length) {
                    text.append(letter == 0 ? '#' : letter);
                } else if (letter != 0) {
                    text.append(" and behind the end ").append(letter);
                }
            }
        }
        return text.toString();
    }

    /** The name of what word(i) throws, or its answer. */
    static String wordOrThrown(ShortestPrinter printer, int i) {
        try {
            return Long.toString(printer.word(i));
        } catch (RuntimeException thrown) {
            return thrown.getClass().getSimpleName();
        }
    }

    /** The eight letters of a text from i on as a word, zeros behind its end. */
    static long wordOf(String text, int i) {
        long word = 0;
        for (int k = i; k < i + 8; k++) {
            word = word << 8 | (k < text.length() ? text.charAt(k) : 0);
        }
        return word;
    }

    void end() {
        if (asked == 0) {
            System.out.println("nothing was asked");
            System.exit(1);
        }
        if (wrong != 0) {
            System.out.println(wrong + " answers are not as due");
            System.exit(1);
        }
    }
}
