/** Texts of every length that THE RESULT can have, from LEAST_LENGTH on, each as its DOUBLE or FLOAT is PRINTED. */
final class Texts {
    static final int LEAST_LENGTH = 3;
    static final String[] OF_DOUBLES = {
        "1.0", "10.0", "0.001", "1.0E10", "123.456", "12345.75", "-Infinity", "-1.23E-300", "-1.234E-300",
        "-1.2345E-300", "-1.23456E-300", "-1.234567E-300", "-1.2345678E-300", "-1.23456789E-300", "-1.234567891E-300",
        "-1.2345678912E-300", "-1.23456789123E-300", "-1.234567891234E-300", "-1.2345678912345E-300",
        "-1.23456789123456E-300", "-1.234567891234567E-300", "-1.2345678901234568E-300"};
    static final String[] OF_FLOATS = {
        "0.0", "-0.0", "100.0", "-100.0", "1.4E-45", "Infinity", "9999999.0", "-9999999.0", "0.001234567",
        "3.4028235E38", "1.1754942E-38", "1.04860595E-36", "-1.04860595E-36"};

    private Texts() {
    }

    static ShortestPrinter printed(String text) {
        ShortestPrinter printer = new ShortestPrinter();
        printer.print(Double.doubleToRawLongBits(Double.parseDouble(text)));
        return printer;
    }

    static ShortestPrinter printedFloat(String text) {
        ShortestPrinter printer = new ShortestPrinter();
        printer.printFloat(Float.floatToRawIntBits(Float.parseFloat(text)));
        return printer;
    }
}
