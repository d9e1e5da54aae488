/** What README.md tells of how to use the class. */
public final class ReadmeTest {
    public static void main(String[] args) {
        Checks checks = new Checks();
        ShortestPrinter printer = new ShortestPrinter();
        int length = printer.print(Double.doubleToRawLongBits(0.1));
        checks.due("length of 0.1", length, 3);
        checks.due("word(0) of 0.1", printer.word(0), 0x302E310000000000L);
        checks.due("text of 0.1", text(printer, length), "0.1");
        length = printer.printFloat(Float.floatToRawIntBits(1.0E10f));
        checks.due("length of 1.0E10", length, 6);
        checks.due("text of 1.0E10", text(printer, length), "1.0E10");
        length = printer.print(Double.doubleToRawLongBits(-Double.MIN_NORMAL));
        checks.due("length of the longest", length, 24);
        checks.due("text of the longest", text(printer, length), "-2.2250738585072014E-308");
        checks.due("text of a new object", text(new ShortestPrinter(), 0), "");
        checks.end();
    }

    /** As it stands in README.md. */
    private static String text(ShortestPrinter printer, int length) {
        StringBuilder text = new StringBuilder();
        long word = 0;
        for (int i = 0; i < length; i++) {
            word = i % 8 == 0 ? printer.word(i) : word << 8;
            text.append((char) (word >>> 56));
        }
        return text.toString();
    }
}
