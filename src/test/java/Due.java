import java.nio.charset.StandardCharsets;

/** Compares answers with those that are due, and tells a fresh object texts by its tape. */
final class Due {
    private final String name;
    private int asked = 0;
    private int wrong = 0;

    Due(String name) {
        this.name = name;
    }

    void is(String call, long got, long want) {
        asked++;
        if (got != want) {
            wrong++;
            System.out.println(name + ": " + call + " answered " + got + ", due is " + want);
        }
    }

    void is(String call, boolean got, boolean want) {
        is(call, got ? 1 : 0, want ? 1 : 0);
    }

    void is(String call, String got, String want) {
        if (!got.equals(want)) {
            System.out.println(name + ": " + got + "\n" + want);
        }
        is(call, got.equals(want), true);
    }

    boolean isWrong() {
        return wrong != 0;
    }

    void end() {
        System.out.println(name + ": " + asked + " answers, " + wrong + " wrong");
        if (wrong != 0) {
            System.exit(1);
        }
    }

    /** Feeds as many times twenty bytes as these need, once at least; the rest are zeros. */
    static void bytes(UncleAges x, int... bytes) {
        for (int from = 0; from == 0 || from < bytes.length; from += 20) {
            int[] five = new int[5];
            for (int i = 0; i < 20 && from + i < bytes.length; i++) {
                five[i / 4] |= (bytes[from + i] & 255) << (24 - 8 * (i % 4));
            }
            x.feed(five[0], five[1], five[2], five[3], five[4]);
        }
    }

    static void text(UncleAges x, String text) {
        byte[] signs = text.getBytes(StandardCharsets.ISO_8859_1);
        int[] bytes = new int[signs.length];
        for (int i = 0; i < signs.length; i++) {
            bytes[i] = signs[i];
        }
        bytes(x, bytes);
    }

    /** A fresh object that has been told people a, b, .. from LOW to HIGH each. */
    static UncleAges people(int... lowHigh) {
        UncleAges x = new UncleAges();
        for (int p = 0; p < lowHigh.length / 2; p++) {
            x.person(p, lowHigh[2 * p], lowHigh[2 * p + 1]);
        }
        return x;
    }

    static int remark(UncleAges x, int k, String text) {
        text(x, text);
        return x.remark(k, text.length());
    }

    static int form(UncleAges x, int k, String text) {
        text(x, text);
        return x.form(k, text.length());
    }

    static int sayings(UncleAges x, int remarks, String text, int what) {
        text(x, text);
        return x.sayings(remarks, text.length(), what);
    }
}
