/** Promise 4: "zeros behind its end". */
public final class ZerosBehindTest {
    private static final Checks CHECKS = new Checks();

    public static void main(String[] args) {
        writtenOut();
        for (String text : Texts.OF_DOUBLES) {
            lastWords(text, Texts.printed(text));
        }
        for (String text : Texts.OF_FLOATS) {
            lastWords(text, Texts.printedFloat(text));
        }
        whereALongerOneWas();
        CHECKS.end();
    }

    private static void writtenOut() {
        ShortestPrinter printer = Texts.printed("NaN");
        CHECKS.due("NaN, word(0)", printer.word(0), 0x4E614E0000000000L);
        CHECKS.due("NaN, word(1)", printer.word(1), 0x614E000000000000L);
        CHECKS.due("NaN, word(2)", printer.word(2), 0x4E00000000000000L);
        CHECKS.due("-Infinity, word(2)", Texts.printed("-Infinity").word(2), 0x6E66696E69747900L);
        CHECKS.due("the 24th byte", Texts.printed("-1.2345678901234568E-300").word(23), 0x3000000000000000L);
    }

    private static void lastWords(String text, ShortestPrinter printer) {
        for (int letters = 1; letters < 8 && letters <= text.length(); letters++) {
            int i = text.length() - letters;
            CHECKS.due(text + ", word(" + i + ")", printer.word(i), Checks.wordOf(text, i));
        }
    }

    /** The bytes of a longer RESULT before this one are gone. */
    private static void whereALongerOneWas() {
        ShortestPrinter printer = Texts.printed("-1.2345678901234568E-300");
        printer.print(Double.doubleToRawLongBits(12345.75));
        lastWords("12345.75", printer);
        printer.printFloat(0);
        lastWords("0.0", printer);
    }
}
