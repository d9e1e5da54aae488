/** SHORTEST: "of those of R with at most n digits the one that is nearest to x without its sign". */
public final class NearestTest {
    private static final Checks CHECKS = new Checks();

    public static void main(String[] args) {
        nearestIsAbove();
        nearestIsBelow();
        nearestIsNotOneOfR();
        CHECKS.end();
    }

    /** One less in the last place reads back, too. */
    private static void nearestIsAbove() {
        CHECKS.doubleIs(0x1p-1022, "2.2250738585072014E-308");
        CHECKS.doubleIs(-0x1p-1022, "-2.2250738585072014E-308");
        CHECKS.doubleIs(0x1.8p-1019, "2.6700886302086417E-307");
        CHECKS.doubleIs(0x1p-1009, "1.8227805048890994E-304");
        CHECKS.floatIs(0x1p-126f, "1.1754944E-38");
        CHECKS.floatIs(-0x1.8p-119f, "-2.2569492E-36");
        CHECKS.floatIs(0x1p-104f, "4.9303807E-32");
    }

    /** One more in the last place reads back, too. */
    private static void nearestIsBelow() {
        CHECKS.doubleIs(0x1.8p-1020, "1.3350443151043208E-307");
        CHECKS.doubleIs(-0x1.8p-1020, "-1.3350443151043208E-307");
        CHECKS.doubleIs(0x1.0000000000001p-1019, "1.7800590868057615E-307");
        CHECKS.doubleIs(0x1p-1012, "2.2784756311113742E-305");
        CHECKS.floatIs(0x1p-125f, "2.3509887E-38");
        CHECKS.floatIs(-0x1.8p-122f, "-2.8211864E-37");
        CHECKS.floatIs(0x1p-118f, "3.0092655E-36");
    }

    /** Powers of two: 7.120236347223044E-307 and so on are nearer, but closer to the number below. */
    private static void nearestIsNotOneOfR() {
        CHECKS.doubleIs(0x1p-1017, "7.120236347223045E-307");
        CHECKS.doubleIs(0x1p-1007, "7.291122019556398E-304");
        CHECKS.floatIs(0x1p-96f, "1.2621775E-29");
    }
}
