/** Promise 4: word. */
public final class WordTest {
    private static final int[] NO_BYTES = {Integer.MIN_VALUE, Integer.MIN_VALUE + 7, -8, -7, -1, Integer.MAX_VALUE - 7, Integer.MAX_VALUE};

    public static void main(String[] args) {
        Checks checks = new Checks();
        ShortestPrinter printer = new ShortestPrinter();

        // Longer before shorter: bytes of an earlier RESULT must not be seen again.
        everyWord(checks, printer, printer.print(Double.doubleToRawLongBits(-1.2345678901234568E-300)), "-1.2345678901234568E-300");
        everyWord(checks, printer, printer.print(Double.doubleToRawLongBits(1234567.875)), "1234567.875");
        everyWord(checks, printer, printer.printFloat(Float.floatToRawIntBits(-123.25f)), "-123.25");
        everyWord(checks, printer, printer.printFloat(Float.floatToRawIntBits(-1234.5f * 1000)), "-1234500.0");
        everyWord(checks, printer, printer.print(Double.doubleToRawLongBits(12345.75)), "12345.75");
        everyWord(checks, printer, printer.print(0), "0.0");
        everyWord(checks, printer, printer.printFloat(0x7FC00000), "NaN");
        checks.due("\"NaN\" as a word", printer.word(0), 0x4E614E0000000000L);
        checks.due("its last letter", printer.word(2), 0x4E00000000000000L);
        checks.end();
    }

    private static void everyWord(Checks checks, ShortestPrinter printer, int length, String text) {
        checks.due("bytes of " + text, length, text.length());
        for (int i = 0; i < text.length(); i++) {
            checks.due(text + ", word(" + i + ")", printer.word(i), wordOf(text, i));
        }
        for (int i = text.length(); i < text.length() + 10; i++) {
            refused(checks, printer, text, i);
        }
        for (int i : NO_BYTES) {
            refused(checks, printer, text, i);
        }
        checks.due("after refused words", Checks.text(printer, length), text);
    }

    private static void refused(Checks checks, ShortestPrinter printer, String text, int i) {
        checks.due(text + ", word(" + i + ")", Checks.wordOrThrown(printer, i), "IndexOutOfBoundsException");
    }

    private static long wordOf(String text, int i) {
        long word = 0;
        for (int k = i; k < i + 8; k++) {
            word = word * 256 + (k < text.length() ? text.charAt(k) : 0);
        }
        return word;
    }
}
