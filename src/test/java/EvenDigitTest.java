/** SHORTEST: "of two the one whose d (of n digits) is even". Each x lies halfway between two of n digits. */
public final class EvenDigitTest {
    private static final Checks CHECKS = new Checks();

    public static void main(String[] args) {
        evenIsBelow();
        evenIsAbove();
        CHECKS.end();
    }

    private static void evenIsBelow() {
        CHECKS.doubleIs(0x1p49 + 0.25, "5.629499534213122E14");
        CHECKS.doubleIs(0x1p50 + 0.25, "1.1258999068426242E15");
        CHECKS.doubleIs(-0x1p50 - 0.25, "-1.1258999068426242E15");
        CHECKS.doubleIs(0x1p-25, "2.9802322387695312E-8");
        CHECKS.floatIs(0x1p20f + 0.25f, "1048576.2");
        CHECKS.floatIs(0x1p21f + 0.25f, "2097152.2");
        CHECKS.floatIs(-0x1p21f - 0.25f, "-2097152.2");
        CHECKS.floatIs(0x1p-12f, "2.4414062E-4");
    }

    private static void evenIsAbove() {
        CHECKS.doubleIs(0x1p49 + 0.75, "5.629499534213128E14");
        CHECKS.doubleIs(0x1p50 + 0.75, "1.1258999068426248E15");
        CHECKS.doubleIs(-0x1p50 - 0.75, "-1.1258999068426248E15");
        CHECKS.doubleIs(0x1.8p-23, "1.7881393432617188E-7");
        CHECKS.floatIs(0x1p20f + 0.75f, "1048576.8");
        CHECKS.floatIs(0x1p21f + 0.75f, "2097152.8");
        CHECKS.floatIs(-0x1p21f - 0.75f, "-2097152.8");
        CHECKS.floatIs(0x1.8p-10f, "0.0014648438");
    }
}
