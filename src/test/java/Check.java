import java.nio.charset.StandardCharsets;

/** What the tests share: counting wrong answers, and telling a camp to an object. */
final class Check {
    private int wrong = 0;
    private int asked = 0;

    void due(String call, long got, long want) {
        asked++;
        if (got != want) {
            wrong++;
            if (wrong <= 50) {
                System.out.println(call + " answered " + got + ", due is " + want);
            }
        }
    }

    /** Several calls that are due the same answer. */
    void all(String calls, long want, long... got) {
        for (int i = 0; i < got.length; i++) {
            due(calls + ", number " + i, got[i], want);
        }
    }

    /** A text told to a new object has this fault at this place. */
    void fault(String text, int kind, int place) {
        SacredHens x = new SacredHens();
        due("camp() of " + text, tell(x, text), -4);
        due("fault(0) of " + text, x.fault(0), kind);
        due("fault(1) of " + text, x.fault(1), place);
    }

    /** What was seen ahead of calls that change nothing is seen behind them too. */
    void same(String calls, String ahead, String behind) {
        due(calls + " change nothing", behind.equals(ahead) ? 1 : 0, 1);
        if (!behind.equals(ahead)) {
            System.out.println("ahead  " + ahead + "\nbehind " + behind);
        }
    }

    /** To be called last: ends with exit code 1 if an answer was wrong. */
    void end() {
        System.out.println(asked + " answers looked at, " + wrong + " wrong");
        if (wrong != 0) {
            System.exit(1);
        }
    }

    static int[] numbers(byte[] text) {
        int[] numbers = new int[(text.length + 19) / 20 * 5];
        for (int i = 0; i < numbers.length * 4; i++) {
            int sign = i < text.length ? text[i] & 255 : 32;
            numbers[i / 4] = numbers[i / 4] << 8 | sign;
        }
        return numbers;
    }

    static void feed(SacredHens x, byte[] text) {
        int[] n = numbers(text);
        int ahead = x.count(8);
        for (int i = 0; i < n.length; i += 5) {
            x.feed(n[i], n[i + 1], n[i + 2], n[i + 3], n[i + 4]);
        }
        x.end(ahead + text.length);
    }

    static int tell(SacredHens x, String text) {
        feed(x, text.getBytes(StandardCharsets.ISO_8859_1));
        return x.camp();
    }

    static SacredHens camp(String text) {
        SacredHens x = new SacredHens();
        int lines = tell(x, text);
        if (lines < 0) {
            throw new IllegalStateException("a camp of a test has fault " + x.fault(0) + " at " + x.fault(1) + ": " + text);
        }
        return x;
    }

    static void fill(SacredHens x, int slot, int width, long... numbers) {
        x.row(slot, width, numbers.length);
        for (int i = 0; i < numbers.length; i++) {
            x.write(slot, i, numbers[i]);
        }
    }

    static int bits(int... places) {
        int bits = 0;
        for (int place : places) {
            bits |= 1 << place;
        }
        return bits;
    }
}
