/** Promises 2 and 3: "Answers how many bytes.", from the shortest texts to the longest. */
public final class HowManyBytesTest {
    private static final Checks CHECKS = new Checks();

    public static void main(String[] args) {
        for (int i = 0; i < Texts.OF_DOUBLES.length; i++) {
            print(Texts.OF_DOUBLES[i], Texts.LEAST_LENGTH + i);
        }
        for (int i = 0; i < Texts.OF_FLOATS.length; i++) {
            printFloat(Texts.OF_FLOATS[i], Texts.LEAST_LENGTH + i);
        }
        print("-1.2345678901234568E-300", 24);
        print("NaN", 3);
        print("0.0", 3);
        print("-0.0", 4);
        print("Infinity", 8);
        print("-Infinity", 9);
        printFloat("-1.04860595E-36", 15);
        printFloat("NaN", 3);
        printFloat("Infinity", 8);
        printFloat("-Infinity", 9);
        CHECKS.end();
    }

    private static void print(String text, int bytes) {
        ShortestPrinter printer = new ShortestPrinter();
        CHECKS.due("bytes of " + text, printer.print(Double.doubleToRawLongBits(Double.parseDouble(text))), bytes);
        CHECKS.due("bytes of " + text + " that word has", bytesOf(printer), bytes);
    }

    private static void printFloat(String text, int bytes) {
        ShortestPrinter printer = new ShortestPrinter();
        CHECKS.due("bytes of " + text + "f", printer.printFloat(Float.floatToRawIntBits(Float.parseFloat(text))), bytes);
        CHECKS.due("bytes of " + text + "f that word has", bytesOf(printer), bytes);
    }

    private static int bytesOf(ShortestPrinter printer) {
        int bytes = 0;
        for (int i = -10; i < 50; i++) {
            if (!Checks.wordOrThrown(printer, i).equals("IndexOutOfBoundsException")) {
                bytes++;
            }
        }
        return bytes;
    }
}
