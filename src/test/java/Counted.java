/**
 * A MonoidRules that is asked no more often than the document allows: what an object answers behind its
 * 512th call is free, so a test that goes on asking holds nothing.
 */
final class Counted {
    private static final int MOST_CALLS = 512;
    private final MonoidRules asked = new MonoidRules();
    private int calls;

    private MonoidRules ask() {
        calls++;
        if (calls == MOST_CALLS + 1) Checks.fail("the test asks one object more than " + MOST_CALLS + " times");
        return asked;
    }

    int calls() {
        return calls;
    }

    int feed(long w, int n) {
        return ask().feed(w, n);
    }

    int read() {
        return ask().read();
    }

    int word(int slot) {
        return ask().word(slot);
    }

    int fault() {
        return ask().fault();
    }

    int complete(int fuel) {
        return ask().complete(fuel);
    }

    int count(int what) {
        return ask().count(what);
    }

    int rule(int rule, int what) {
        return ask().rule(rule, what);
    }

    int ruleLetter(int rule, int side, int i) {
        return ask().ruleLetter(rule, side, i);
    }

    int waiting(int k, int side, int i) {
        return ask().waiting(k, side, i);
    }

    int open() {
        return ask().open();
    }

    int overlap(int what) {
        return ask().overlap(what);
    }

    int length(int slot) {
        return ask().length(slot);
    }

    int letter(int slot, int i) {
        return ask().letter(slot, i);
    }

    int join(int slot, int a, int b) {
        return ask().join(slot, a, b);
    }

    int reduce(int slot) {
        return ask().reduce(slot);
    }

    int step(int i, int what) {
        return ask().step(i, what);
    }

    int same(int a, int b) {
        return ask().same(a, b);
    }

    int compare(int a, int b) {
        return ask().compare(a, b);
    }

    long many(int n) {
        return ask().many(n);
    }

    long size() {
        return ask().size();
    }

    int element(int i, int slot) {
        return ask().element(i, slot);
    }

    int number(int slot) {
        return ask().number(slot);
    }

    int product(int i, int j) {
        return ask().product(i, j);
    }

    int power(int i, int what) {
        return ask().power(i, what);
    }

    int inverse(int i) {
        return ask().inverse(i);
    }

    int commutes() {
        return ask().commutes();
    }
}
