/** A MonoidRules and a NaiveMonoid that get the same calls; every unlike answer is printed and counted. */
final class TwoMonoids {
    private static final int MOST_PRINTED = 20;
    static int wrong = 0;

    final MonoidRules x = new MonoidRules();
    final NaiveMonoid y = new NaiveMonoid();
    /** The run so far, printed ahead of an unlike answer. */
    final StringBuilder run = new StringBuilder();

    /** Ends the test: with exit code 1 if an answer was unlike. */
    static void tell() {
        System.out.println(wrong == 0 ? "all runs are alike" : wrong + " answers are unlike");
        if (wrong != 0) System.exit(1);
    }

    void check(String call, long got, long want) {
        if (got == want) return;
        wrong++;
        if (wrong <= MOST_PRINTED) {
            System.out.println("after " + run);
            System.out.println("  " + call + " answered " + got + ", due is " + want);
        }
    }

    /** All counts, RULES and PAIRS WAITING. */
    void compareAll() {
        for (int i = 0; i < 8; i++) check("count(" + i + ")", x.count(i), y.count(i));
        for (int r = 0; r <= x.count(1); r++) {
            for (int w = 0; w < 3; w++) check("rule(" + r + "," + w + ")", x.rule(r, w), y.rule(r, w));
            for (int i = 0; i < 61; i++) {
                check("ruleLetter(" + r + ",0," + i + ")", x.ruleLetter(r, 0, i), y.ruleLetter(r, 0, i));
                check("ruleLetter(" + r + ",1," + i + ")", x.ruleLetter(r, 1, i), y.ruleLetter(r, 1, i));
            }
        }
        for (int k = 0; k <= x.count(3); k++) {
            for (int i = 0; i < 121; i++) {
                check("waiting(" + k + ",0," + i + ")", x.waiting(k, 0, i), y.waiting(k, 0, i));
                check("waiting(" + k + ",1," + i + ")", x.waiting(k, 1, i), y.waiting(k, 1, i));
            }
        }
    }
}
