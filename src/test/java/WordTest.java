/** Promise 4: "8 bytes (codes of its letters) of THE RESULT from i on, the highest first". */
public final class WordTest {
    private static final Checks CHECKS = new Checks();

    public static void main(String[] args) {
        writtenOut();
        for (String text : Texts.OF_DOUBLES) {
            fullWords(text, Texts.printed(text));
        }
        for (String text : Texts.OF_FLOATS) {
            fullWords(text, Texts.printedFloat(text));
        }
        changesNothing();
        CHECKS.end();
    }

    private static void writtenOut() {
        ShortestPrinter printer = Texts.printed("-Infinity");
        CHECKS.due("-Infinit as a word", printer.word(0), 0x2D496E66696E6974L);
        CHECKS.due("Infinity as a word", printer.word(1), 0x496E66696E697479L);
        CHECKS.due("12345.75 as a word", Texts.printed("12345.75").word(0), 0x31323334352E3735L);
        CHECKS.due("809E-300 as a word", Texts.printed("6.0809E-300").word(3), 0x383039452D333030L);
    }

    /** From every byte that has seven more behind it. */
    private static void fullWords(String text, ShortestPrinter printer) {
        for (int i = 0; i + 8 <= text.length(); i++) {
            CHECKS.due(text + ", word(" + i + ")", printer.word(i), Checks.wordOf(text, i));
        }
    }

    private static void changesNothing() {
        ShortestPrinter printer = Texts.printed("-Infinity");
        for (int i = 0; i < 100; i++) {
            CHECKS.due("word(1) again", printer.word(1), 0x496E66696E697479L);
            CHECKS.due("word(8) again", printer.word(8), 0x7900000000000000L);
        }
        CHECKS.holds("after many words", printer, "-Infinity");
    }
}
