/** Promise 1: THE RESULT of a new object is empty. */
public final class NewObjectTest {
    private static final int[] PLACES = {Integer.MIN_VALUE, -8, -1, 0, 1, 7, 8, 23, 24, 64, Integer.MAX_VALUE};

    public static void main(String[] args) {
        Checks checks = new Checks();
        noByte(checks, new ShortestPrinter());

        ShortestPrinter used = new ShortestPrinter();
        used.print(Double.doubleToRawLongBits(-1.2345678901234568E-300));
        ShortestPrinter made = new ShortestPrinter();
        noByte(checks, made);
        made.printFloat(0);
        checks.due("a used object beside a new one", Checks.text(used, 24), "-1.2345678901234568E-300");
        checks.end();
    }

    private static void noByte(Checks checks, ShortestPrinter printer) {
        for (int i : PLACES) {
            checks.due("new object, word(" + i + ")", Checks.wordOrThrown(printer, i), "IndexOutOfBoundsException");
        }
    }
}
