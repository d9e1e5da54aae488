/** SHORTEST: "Its digits are d1 d2 .. without zeros at the end, 0.d1 d2 .. 10^p its value." */
public final class ZerosAtTheEndTest {
    private static final Checks CHECKS = new Checks();

    public static void main(String[] args) {
        powersOfTen();
        zerosInPlainDecimals();
        zerosInside();
        CHECKS.end();
    }

    /** Many of these lie below the power of ten, where d ends in nines and is raised to the next power. */
    private static void powersOfTen() {
        for (int power = -321; power <= 308; power++) {
            if (power < -3 || power > 6) {
                CHECKS.doubleIs(Double.parseDouble("1E" + power), "1.0E" + power);
            }
        }
        for (int power = -42; power <= 38; power++) {
            if (power < -3 || power > 6) {
                CHECKS.floatIs(Float.parseFloat("1E" + power), "1.0E" + power);
            }
        }
    }

    private static void zerosInPlainDecimals() {
        CHECKS.doubleIs(0.01, "0.01");
        CHECKS.doubleIs(0.5, "0.5");
        CHECKS.doubleIs(1.5, "1.5");
        CHECKS.doubleIs(120.0, "120.0");
        CHECKS.doubleIs(1200000.0, "1200000.0");
        CHECKS.floatIs(0.01f, "0.01");
        CHECKS.floatIs(0.5f, "0.5");
        CHECKS.floatIs(120.0f, "120.0");
        CHECKS.floatIs(1200000.0f, "1200000.0");
    }

    private static void zerosInside() {
        CHECKS.doubleIs(1.002E10, "1.002E10");
        CHECKS.doubleIs(1000000.0000001, "1000000.0000001");
        CHECKS.doubleIs(100200.3, "100200.3");
        CHECKS.floatIs(1.002E10f, "1.002E10");
        CHECKS.floatIs(100200.3f, "100200.3");
    }
}
