import java.util.Random;

/** Systems that get STUCK, each at another point of the treating, held against NaiveMonoid. */
public final class StuckRunsTest {
    // What the treating was at, and a text with which it gets STUCK there.
    private static final String[][] TEXTS = {
        {"(a)", "abc;aca=bac;acb=cba;"},
        {"(a)", "ab;bbb=abb;bbababb=ab;"},
        {"(a)", "ab;abbaab=ababa;"},
        {"(a)", "ab;babbaaa=bab;ababab=ba;"},
        {"(a)", "ab;aaabbbab=abbb;abbab=aa;"},
        {"(a)", "abc;acba=cba;baa=bb;bcbb=aca;"},
        {"(a)", "abc;ccabaaabc=;cbaaaccca=;"},
        {"(b)", "abcdefg;ggggggggggggg=ccccccccccef;ba=ad;ca=be;ed=ce;ef=af;"},
        {"(c)", "ab;ba=bb;"},
        {"(c)", "abcd;d=d;b=a;bb=dc;aa=dd;"},
        {"first word", "abcdefgh;ba=ad;ca=be;ed=ce;ef=af;gggggggggggghf=;ggggggggggggh=cccccccccce;hf=a;"},
        {"second word", "abcd;db=bc;dd=ab;ac=ca;"},
        {"long left", "ab;baab=;"},
        {"long left", "ab;aaabbaa=bbbbbbb;"},
        {"rule 200", "ab;abbaa=;"},
    };

    public static void main(String[] args) {
        for (String[] text : TEXTS) {
            new StuckRunsTest().go(text[0], text[1]);
        }
        TwoMonoids.tell();
    }

    private final TwoMonoids both = new TwoMonoids();
    private final MonoidRules x = both.x;
    private final NaiveMonoid y = both.y;

    private void check(String call, long got, long want) {
        both.check(call, got, want);
    }

    private void put(String text) {
        for (int i = 0; i < text.length(); i++) {
            x.feed(text.charAt(i), 1);
            y.feed(text.charAt(i), 1);
        }
    }

    private void go(String point, String text) {
        both.run.append(text);
        put(text);
        check("read()", x.read(), y.read());
        int answer = 0;
        for (int i = 0; i < 50 && answer == 0; i++) {
            answer = x.complete(97);
            check("complete(97)", answer, y.complete(97));
        }
        check("STUCK at " + point + ", but " + y.at, y.at.equals(point) ? 1 : 0, 1);
        check("it got STUCK", answer, 2);
        both.compareAll();
        Random random = new Random(text.hashCode());
        for (int i = 0; i < 300; i++) compareWord(random);
        check("open()", x.open(), y.open());
        for (int i = 0; i < 3; i++) check("overlap(" + i + ")", x.overlap(i), y.overlap(i));
        check("same(0, 1)", x.same(0, 1), y.same(0, 1));
        check("size()", x.size(), y.size());
    }

    /** Random letters with a LEFT among them: in a STUCK system several LEFTS may end at one place. */
    private void compareWord(Random random) {
        StringBuilder w = new StringBuilder();
        int rule = random.nextInt(x.count(1));
        int before = random.nextInt(8);
        for (int i = 0; i < before; i++) w.append((char) ('a' + random.nextInt(x.count(0))));
        for (int i = 0; i < x.rule(rule, 1); i++) w.append((char) ('a' + x.ruleLetter(rule, 0, i)));
        int behind = random.nextInt(8);
        for (int i = 0; i < behind; i++) w.append((char) ('a' + random.nextInt(x.count(0))));
        put(w.toString());
        check("word(0)", x.word(0), y.word(0));
        int steps = x.reduce(0);
        check("reduce(0) of " + w, steps, y.reduce(0));
        for (int i = 0; i < Math.min(steps + 1, 302); i++) {
            check("step(" + i + ", 0) of " + w, x.step(i, 0), y.step(i, 0));
            check("step(" + i + ", 1) of " + w, x.step(i, 1), y.step(i, 1));
        }
        for (int i = 0; i < 80; i++) check("letter(0, " + i + ")", x.letter(0, i), y.letter(0, i));
    }
}
