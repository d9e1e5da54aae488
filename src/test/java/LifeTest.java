/** What it is: "An object is used for at most 512 calls after it has been made": all of these answer as due. */
public final class LifeTest {
    private static final Checks CHECKS = new Checks();
    private static final int CALLS = 512;
    // The dearest numbers, the longest text among them, and short ones.
    private static final long[] DOUBLES = {
        1L, 0x8010000000000000L, 0x7FEFFFFFFFFFFFFFL, 0x0000000000000000L, 0x3FB999999999999AL, 0xFFF0000000000000L, -1L};
    private static final String[] DOUBLE_TEXTS = {
        "4.9E-324", "-2.2250738585072014E-308", "1.7976931348623157E308", "0.0", "0.1", "-Infinity", "NaN"};
    private static final int[] FLOATS = {1, 0x80800000, 0x7F7FFFFF, 0, 0x3DCCCCCD};
    private static final String[] FLOAT_TEXTS = {"1.4E-45", "-1.1754944E-38", "3.4028235E38", "0.0", "0.1"};

    public static void main(String[] args) {
        onlyPrints();
        onlyFloats();
        onlyWords();
        onlyRefused();
        refusedButForTheLastTwo();
        everyKindByTurns(0);
        everyKindByTurns(1);
        everyKindByTurns(2);
        everyKindByTurns(3);
        CHECKS.end();
    }

    private static void onlyPrints() {
        ShortestPrinter printer = new ShortestPrinter();
        for (int call = 1; call <= CALLS; call++) {
            int i = call % DOUBLES.length;
            CHECKS.due("print as call " + call, printer.print(DOUBLES[i]), DOUBLE_TEXTS[i].length());
        }
    }

    private static void onlyFloats() {
        ShortestPrinter printer = new ShortestPrinter();
        for (int call = 1; call <= CALLS; call++) {
            int i = call % FLOATS.length;
            CHECKS.due("printFloat as call " + call, printer.printFloat(FLOATS[i]), FLOAT_TEXTS[i].length());
        }
    }

    private static void onlyWords() {
        ShortestPrinter printer = new ShortestPrinter();
        CHECKS.due("print as call 1", printer.print(1L), 8);
        for (int call = 2; call <= CALLS; call++) {
            CHECKS.due("word as call " + call, printer.word(0), Checks.wordOf("4.9E-324", 0));
        }
    }

    private static void onlyRefused() {
        ShortestPrinter printer = new ShortestPrinter();
        for (int call = 1; call <= CALLS; call++) {
            CHECKS.refuses("call " + call + " of a new object", printer, call % 3 - 1);
        }
    }

    private static void refusedButForTheLastTwo() {
        ShortestPrinter printer = new ShortestPrinter();
        for (int call = 1; call <= CALLS - 2; call++) {
            CHECKS.refuses("call " + call + " of a new object", printer, call % 3 - 1);
        }
        CHECKS.due("print as call 511", printer.print(1L), 8);
        CHECKS.due("word as call 512", printer.word(0), Checks.wordOf("4.9E-324", 0));
    }

    /** A print, a word, a word that is refused and a printFloat by turns, from another one of them on. */
    private static void everyKindByTurns(int first) {
        ShortestPrinter printer = new ShortestPrinter();
        String text = "";
        for (int call = 1; call <= CALLS; call++) {
            int i = call / 4;
            switch ((call + first) % 4) {
                case 0:
                    text = DOUBLE_TEXTS[i % DOUBLES.length];
                    CHECKS.due("print as call " + call, printer.print(DOUBLES[i % DOUBLES.length]), text.length());
                    break;
                case 1:
                    wordAsCall(call, printer, text);
                    break;
                case 2:
                    CHECKS.refuses("call " + call, printer, text.length());
                    break;
                default:
                    text = FLOAT_TEXTS[i % FLOATS.length];
                    CHECKS.due("printFloat as call " + call, printer.printFloat(FLOATS[i % FLOATS.length]), text.length());
                    break;
            }
        }
    }

    private static void wordAsCall(int call, ShortestPrinter printer, String text) {
        if (text.isEmpty()) {
            CHECKS.refuses("call " + call, printer, 0);
        } else {
            int i = call % text.length();
            CHECKS.due("word as call " + call, printer.word(i), Checks.wordOf(text, i));
        }
    }
}
