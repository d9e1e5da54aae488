/** Promise 1: "THE RESULT is empty." */
public final class NewObjectTest {
    private static final String LONG_TEXT = "-1.2345678901234568E-300";
    private static final int[] PLACES = {Integer.MIN_VALUE, -8, -1, 0, 1, 7, 8, 23, 24, 64, Integer.MAX_VALUE};

    public static void main(String[] args) {
        Checks checks = new Checks();
        noByte(checks);
        stillNoneWhenRefused(checks);
        emptyBesideAUsedOne(checks);
        checks.end();
    }

    private static void noByte(Checks checks) {
        for (int i : PLACES) {
            checks.refuses("a new object", new ShortestPrinter(), i);
        }
    }

    private static void stillNoneWhenRefused(Checks checks) {
        ShortestPrinter printer = new ShortestPrinter();
        for (int i : PLACES) {
            checks.refuses("a new object, refused before", printer, i);
        }
        checks.due("its first print", printer.print(0), 3);
        checks.holds("its first print", printer, "0.0");
    }

    private static void emptyBesideAUsedOne(Checks checks) {
        ShortestPrinter used = new ShortestPrinter();
        used.print(Double.doubleToRawLongBits(Double.parseDouble(LONG_TEXT)));
        ShortestPrinter made = new ShortestPrinter();
        for (int i : PLACES) {
            checks.refuses("a new object beside a used one", made, i);
        }
        made.printFloat(0);
        checks.holds("the used object", used, LONG_TEXT);
    }
}
