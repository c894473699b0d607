import java.util.Random;

/** Random runs of calls (always the same ones) on MonoidRules and on NaiveMonoid: all answers are alike. */
public final class RandomRunsTest {
    private final Random random;
    private final TwoMonoids both = new TwoMonoids();
    private final MonoidRules x = both.x;
    private final NaiveMonoid y = both.y;
    private int calls = 0;

    private RandomRunsTest(long seed) {
        random = new Random(seed);
    }

    public static void main(String[] args) {
        int runs = args.length > 0 ? Integer.parseInt(args[0]) : 150;
        int from = args.length > 1 ? Integer.parseInt(args[1]) : 0;
        for (int seed = from; seed < from + runs && TwoMonoids.wrong == 0; seed++) {
            new RandomRunsTest(seed).go();
        }
        TwoMonoids.tell();
    }

    private int upTo(int n) {
        return random.nextInt(n);
    }

    /** Mostly a number from 0 on, now and then one outside. */
    private int near(int n) {
        return upTo(12) == 0 ? upTo(n + 3) - 2 : upTo(n);
    }

    private void check(String call, long got, long want) {
        calls++;
        both.check(call, got, want);
        both.run.append(call).append(' ');
    }

    private void feedText(String text) {
        for (int i = 0; i < text.length(); i += 8) {
            int n = Math.min(8, text.length() - i);
            long w = upTo(2) == 0 || n == 8 ? 0 : 77;
            for (int k = 0; k < n; k++) w = w << 8 | text.charAt(i + k);
            check("feed(" + text.substring(i, i + n) + ")", x.feed(w, n), y.feed(w, n));
        }
    }

    private String randomWord(int letters, int most) {
        StringBuilder w = new StringBuilder();
        int n = upTo(most + 1);
        for (int i = 0; i < n; i++) w.append((char) ('a' + upTo(letters)));
        return w.toString();
    }

    private String commuting(int letters) {
        StringBuilder t = new StringBuilder("abcdefgh".substring(0, letters)).append(';');
        for (int i = 0; i < letters; i++) {
            for (int j = 0; j < i; j++) {
                char a = (char) ('a' + i);
                char b = (char) ('a' + j);
                t.append(a).append(b).append('=').append(b).append(a).append(';');
            }
        }
        return t.toString();
    }

    private String coxeter(int letters) {
        StringBuilder t = new StringBuilder("abcdefgh".substring(0, letters)).append(';');
        for (int i = 0; i < letters; i++) {
            char a = (char) ('a' + i);
            t.append(a).append(a).append("=;");
            for (int j = 0; j < i; j++) {
                char b = (char) ('a' + j);
                int m = j == i - 1 ? 2 + upTo(3) : 2;
                for (int k = 0; k < m; k++) t.append(k % 2 == 0 ? a : b);
                t.append('=');
                for (int k = 0; k < m; k++) t.append(k % 2 == 0 ? b : a);
                t.append(';');
            }
        }
        return t.toString();
    }

    private String powersOfLetters(int letters, String start) {
        StringBuilder t = new StringBuilder(start);
        for (int i = 0; i < letters; i++) {
            if (upTo(5) == 0) continue;
            int n = 1 + upTo(24);
            for (int k = 0; k < n; k++) t.append((char) ('a' + i));
            t.append('=').append(upTo(3) == 0 ? randomWord(letters, 2) : "").append(';');
        }
        return t.toString();
    }

    private String randomText(int letters) {
        StringBuilder t = new StringBuilder("abcdefgh".substring(0, letters)).append(';');
        int n = upTo(7);
        int most = 1 + upTo(upTo(4) == 0 ? 20 : 6);
        for (int i = 0; i < n; i++) {
            t.append(randomWord(letters, most)).append('=').append(randomWord(letters, upTo(2) * most)).append(';');
        }
        return t.toString();
    }

    private String spoiled(String text) {
        StringBuilder t = new StringBuilder(text);
        int places = 1 + upTo(2);
        for (int i = 0; i < places; i++) {
            String bytes = "ab;=z \n {A`\u00e9hij";
            char c = bytes.charAt(upTo(bytes.length()));
            int at = upTo(t.length() + 1);
            if (upTo(3) == 0 && at < t.length()) {
                t.deleteCharAt(at);
            } else {
                t.insert(at, c);
            }
        }
        return t.toString();
    }

    private int newSystem() {
        int letters = 1 + upTo(3);
        String text;
        switch (upTo(8)) {
            case 0:
                letters = 1 + upTo(8);
                text = powersOfLetters(letters, commuting(letters));
                break;
            case 1:
                letters = 2 + upTo(4);
                text = coxeter(letters);
                break;
            case 2:
                text = powersOfLetters(letters, randomText(letters));
                break;
            default:
                text = randomText(letters);
        }
        if (upTo(6) == 0) feedText(spoiled(text));
        if (upTo(4) > 0) {
            check("read()", x.read(), y.read());
        } else {
            check("word(0)", x.word(0), y.word(0));
        }
        check("fault()", x.fault(), y.fault());
        feedText(text);
        check("read()", x.read(), y.read());
        return letters;
    }

    private void go() {
        int letters = newSystem();
        boolean treating = true;
        while (calls < 500 && TwoMonoids.wrong == 0) {
            if (upTo(150) == 0) {
                letters = newSystem();
                treating = true;
            }
            if (treating && upTo(3) == 0) {
                int fuel = upTo(3) == 0 ? near(501) : 1 + upTo(20);
                int answer = x.complete(fuel);
                check("complete(" + fuel + ")", answer, y.complete(fuel));
                treating = answer != 1 && answer != 2;
                both.compareAll();
            }
            if (upTo(3) > 0) {
                callOnWords(letters);
            } else {
                callOnSystem();
            }
        }
    }

    private void callOnSystem() {
        int a = near(8);
        int b = near(4);
        switch (upTo(9)) {
            case 0: check("count(" + a + ")", x.count(a), y.count(a)); break;
            case 1: check("rule(" + a + "," + b + ")", x.rule(a, b), y.rule(a, b)); break;
            case 2: check("ruleLetter(" + a + "," + b + ",0)", x.ruleLetter(a, b, 0), y.ruleLetter(a, b, 0)); break;
            case 3: check("waiting(0," + b + "," + a + ")", x.waiting(0, b, a), y.waiting(0, b, a)); break;
            case 4: if (upTo(4) == 0) check("open()", x.open(), y.open()); break;
            case 5: check("overlap(" + b + ")", x.overlap(b), y.overlap(b)); break;
            case 6: check("commutes()", x.commutes(), y.commutes()); break;
            case 7: check("size()", x.size(), y.size()); break;
            default:
                int n = upTo(3) == 0 ? near(81) : a;
                check("many(" + n + ")", x.many(n), y.many(n));
        }
    }

    private int randomElement() {
        switch (upTo(8)) {
            case 0: return near(500);
            case 1: return near(100000);
            case 2: return upTo(Integer.MAX_VALUE);
            case 3: return random.nextInt();
            default: return near(12);
        }
    }

    private void callOnWords(int letters) {
        int a = near(8);
        int b = near(8);
        int s = near(8);
        int i = randomElement();
        int j = randomElement();
        switch (upTo(14)) {
            case 0:
            case 1:
                feedText(randomWord(upTo(9) == 0 ? letters + 1 : letters, upTo(4) == 0 ? 82 : 10));
                check("word(" + a + ")", x.word(a), y.word(a));
                check("fault()", x.fault(), y.fault());
                break;
            case 2: check("join(" + s + "," + a + "," + b + ")", x.join(s, a, b), y.join(s, a, b)); break;
            case 3:
                check("reduce(" + a + ")", x.reduce(a), y.reduce(a));
                int last = near(302);
                check("step(" + b + ",0)", x.step(b, 0), y.step(b, 0));
                check("step(" + last + ",1)", x.step(last, 1), y.step(last, 1));
                break;
            case 4: check("step(" + a + "," + (b - 3) + ")", x.step(a, b - 3), y.step(a, b - 3)); break;
            case 5: check("same(" + a + "," + b + ")", x.same(a, b), y.same(a, b)); break;
            case 6: check("compare(" + a + "," + b + ")", x.compare(a, b), y.compare(a, b)); break;
            case 7: check("length(" + a + ")", x.length(a), y.length(a)); break;
            case 8: check("letter(" + a + "," + b + ")", x.letter(a, b), y.letter(a, b)); break;
            case 9: check("element(" + i + "," + a + ")", x.element(i, a), y.element(i, a)); break;
            case 10: check("number(" + a + ")", x.number(a), y.number(a)); break;
            case 11: check("product(" + i + "," + j + ")", x.product(i, j), y.product(i, j)); break;
            case 12:
                int what = near(2);
                check("power(" + i + "," + what + ")", x.power(i, what), y.power(i, what));
                break;
            default: if (upTo(3) == 0) check("inverse(" + i + ")", x.inverse(i), y.inverse(i));
        }
    }
}
