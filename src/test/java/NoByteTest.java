/** Promise 4: "i is none of its bytes: IndexOutOfBoundsException". */
public final class NoByteTest {
    private static final Checks CHECKS = new Checks();
    // Among them those where i + 7, i + 8 or -i would wrap around.
    private static final int[] FAR = {
        Integer.MIN_VALUE, Integer.MIN_VALUE + 1, Integer.MIN_VALUE + 7, Integer.MIN_VALUE + 8, -65536, -256, -24, -9, -8, -7, -2, -1,
        24, 25, 31, 32, 255, 256, 65536, Integer.MAX_VALUE - 8, Integer.MAX_VALUE - 7, Integer.MAX_VALUE - 6, Integer.MAX_VALUE};

    public static void main(String[] args) {
        for (int i : FAR) {
            CHECKS.refuses("a new object", new ShortestPrinter(), i);
        }
        CHECKS.refuses("a new object", new ShortestPrinter(), 0);
        for (String text : Texts.OF_DOUBLES) {
            noByte(text, Texts.printed(text));
        }
        for (String text : Texts.OF_FLOATS) {
            noByte(text, Texts.printedFloat(text));
        }
        whereALongerOneWas();
        CHECKS.end();
    }

    private static void noByte(String text, ShortestPrinter printer) {
        CHECKS.due(text + ", its first byte", printer.word(0) >>> 56, (long) text.charAt(0));
        CHECKS.due(text + ", its last byte", printer.word(text.length() - 1) >>> 56, (long) text.charAt(text.length() - 1));
        for (int i = text.length(); i < text.length() + 12; i++) {
            CHECKS.refuses(text, printer, i);
        }
        for (int i : FAR) {
            CHECKS.refuses(text, printer, i);
        }
        CHECKS.holds(text + " after refused calls", printer, text);
    }

    /** The bytes of a longer RESULT before this one are no more. */
    private static void whereALongerOneWas() {
        ShortestPrinter printer = Texts.printed("-1.2345678901234568E-300");
        printer.printFloat(0);
        noByte("0.0", printer);
    }
}
