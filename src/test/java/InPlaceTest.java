/** Promises 2 and 3: "THE RESULT (in place of what it was)". */
public final class InPlaceTest {
    private static final Checks CHECKS = new Checks();
    // From the longest text of each kind to the shortest, and texts of one length with other letters.
    private static final String[] DOUBLES = {
        "-1.2345678901234568E-300", "1.7976931348623157E308", "-123456.789", "-Infinity", "Infinity", "12345.75", "-0.0", "0.0", "NaN"};
    private static final String[] FLOATS = {
        "-1.04860595E-36", "3.4028235E38", "-123456.79", "-Infinity", "Infinity", "12345.75", "-0.0", "0.0", "NaN"};

    public static void main(String[] args) {
        for (String first : DOUBLES) {
            for (String second : DOUBLES) {
                ShortestPrinter printer = new ShortestPrinter();
                thenDouble(printer, "print, print", thenDouble(printer, "print", "", first), second);
            }
            for (String second : FLOATS) {
                ShortestPrinter printer = new ShortestPrinter();
                thenFloat(printer, "print, printFloat", thenDouble(printer, "print", "", first), second);
                thenDouble(printer, "printFloat, print", second, first);
            }
        }
        for (String first : FLOATS) {
            for (String second : FLOATS) {
                ShortestPrinter printer = new ShortestPrinter();
                thenFloat(printer, "printFloat, printFloat", thenFloat(printer, "printFloat", "", first), second);
            }
        }
        CHECKS.end();
    }

    private static String thenDouble(ShortestPrinter printer, String calls, String before, String text) {
        int length = printer.print(Double.doubleToRawLongBits(Double.parseDouble(text)));
        return inPlace(printer, calls, before, text, length);
    }

    private static String thenFloat(ShortestPrinter printer, String calls, String before, String text) {
        int length = printer.printFloat(Float.floatToRawIntBits(Float.parseFloat(text)));
        return inPlace(printer, calls, before, text, length);
    }

    private static String inPlace(ShortestPrinter printer, String calls, String before, String text, int length) {
        String when = calls + " of " + before + ", " + text;
        CHECKS.due(when, length, text.length());
        CHECKS.holds(when, printer, text);
        for (int i = text.length(); i < before.length(); i++) {
            CHECKS.refuses(when, printer, i);
        }
        return text;
    }
}
