import java.util.ArrayList;
import java.util.Arrays;
import java.util.List;
import java.util.Random;

/**
 * Runs of random calls on a fresh object and on the naive one: all promises, each answer the same.
 * The seeds are fixed, so the runs are always the same ones.
 */
public final class NaiveTest {
    private static final int RUNS = 700;
    private static final int CALLS = 220;
    private static final int CALL_SORTS = 46;
    private static final int TOGETHER = 24;

    private final Random random;
    private final Due due;
    private final int run;
    private final int most;
    private final List<String> story = new ArrayList<>();
    private UncleAges x = new UncleAges();
    private NaiveUncle y = new NaiveUncle();

    private NaiveTest(int run, Due due) {
        this.run = run;
        this.due = due;
        this.random = new Random(20261118L * 1000 + run);
        this.most = run % 25 == 0 ? 4000 : run % 5 == 0 ? 25 : 250;
    }

    public static void main(String[] args) {
        Due due = new Due("naive");
        int[] asked = new int[CALL_SORTS];
        int[] refused = new int[CALL_SORTS];
        for (int run = 0; run < RUNS && !due.isWrong(); run++) {
            new NaiveTest(run, due).go(asked, refused);
        }
        for (int sort = 0; sort < CALL_SORTS; sort++) {
            if (asked[sort] - refused[sort] < 20) {
                due.is("only refused calls of sort " + sort, asked[sort] - refused[sort], 20);
            }
        }
        if (args.length > 0) {
            System.out.println(Arrays.toString(asked) + "\n" + Arrays.toString(refused));
        }
        due.end();
    }

    private void go(int[] asked, int[] refused) {
        if (random.nextInt(12) > 0) {
            int many = 1 + random.nextInt(6);
            for (int p = 0; p < many; p++) {
                same(0);
            }
        }
        for (int i = 0; i < CALLS && !due.isWrong(); i++) {
            int sort = random.nextInt(3) == 0 ? random.nextInt(9) : random.nextInt(CALL_SORTS);
            long got = same(sort);
            asked[sort]++;
            refused[sort] += got < 0 && (sort != TOGETHER || got <= -1000) ? 1 : 0;
        }
        if (due.isWrong()) {
            story.forEach(System.out::println);
        }
    }

    /** A number in a range, now and then one beside it or far from it. */
    private int in(int low, int high) {
        switch (random.nextInt(60)) {
            case 0: return low - 1;
            case 1: return high + 1;
            case 2: return random.nextInt();
            default: return low + random.nextInt(high - low + 1);
        }
    }

    private int remarks() {
        int few = random.nextInt(1024) & random.nextInt(1024);
        int sort = random.nextInt(50);
        return sort == 0 ? in(0, 1023) : x.count(2) & (sort < 10 ? 1023 : sort < 20 ? random.nextInt(1024) : few);
    }

    private int oneOf(int bits, int low, int high) {
        if (bits == 0 || random.nextInt(40) == 0) {
            return in(low, high);
        }
        int k;
        do {
            k = low + random.nextInt(high - low + 1);
        } while ((bits >> k & 1) == 0);
        return k;
    }

    private int person() {
        return oneOf(x.count(1), 0, 5);
    }

    private int said() {
        return oneOf(x.count(2), 0, 9);
    }

    private int formSaid() {
        return oneOf(x.count(3), 0, 5);
    }

    private int lineSaid() {
        return oneOf(x.count(2) | x.count(3) << 10, 0, 15);
    }

    private int personOr(int other) {
        return random.nextInt(3) == 0 ? other : person();
    }


    private long same(int sort) {
        switch (sort) {
            case 0: return person(in(0, 5));
            case 1: case 2: case 3: case 4: return tell(in(0, 9), true);
            case 5: case 6: return tell(in(0, 5), false);
            case 7: { int n = random.nextInt(12); return due("years", x.years(n), y.years(n), n); }
            case 8: { int p = person(), n = in(0, 100); return due("dies", x.dies(p, n), y.dies(p, n), p, n); }
            case 9: return feed();
            case 10: { int k = said(); return random.nextInt(3) > 0 ? 0 : due("takeBack", x.takeBack(k), y.takeBack(k), k); }
            case 11: return due("rows", x.rows(), y.rows());
            case 12: { int r = remarks(), w = personOr(100 + random.nextInt(2)); return due("fit", x.fit(r, w), y.fit(r, w), r, w); }
            case 13: { int r = remarks(), p = person(), w = in(0, 2); return due("ageIs", x.ageIs(r, p, w), y.ageIs(r, p, w), r, p, w); }
            case 14: { int r = remarks(), p = person(), w = in(0, 99); return due("aged", x.aged(r, p, w), y.aged(r, p, w), r, p, w); }
            case 15: { int r = remarks(), w = in(0, 1); return due("follows", x.follows(r, w), y.follows(r, w), r, w); }
            case 16: { int r = remarks(), w = in(0, 1); return due("clash", x.clash(r, w), y.clash(r, w), r, w); }
            case 17: { int r = remarks(); return due("needless", x.needless(r), y.needless(r), r); }
            case 18: { int r = remarks(); return due("settles", x.settles(r), y.settles(r), r); }
            case 19: { int r = remarks(), w = in(0, 1); return due("fewest", x.fewest(r, w), y.fewest(r, w), r, w); }
            case 20: { int r = remarks(), w = in(0, 1); return due("offByAYear", x.offByAYear(r, w), y.offByAYear(r, w), r, w); }
            case 21: { int r = remarks(), k = formSaid(); return due("known", x.known(r, k), y.known(r, k), r, k); }
            case 22: return sayings();
            case 23: { int r = remarks(), k = said(), w = in(0, 2); return due("isTrue", x.isTrue(r, k, w), y.isTrue(r, k, w), r, k, w); }
            case 24: { int r = remarks(), p = person(), o = in(0, 63) & (x.count(1) & ~(p < 0 ? 0 : 1 << p) | random.nextInt()); return due("together", x.together(r, p, o), y.together(r, p, o), r, p, o); }
            case 25: { int r = remarks(), p = person(), q = person(), w = in(0, 1); return due("turned", x.turned(r, p, q, w), y.turned(r, p, q, w), r, p, q, w); }
            case 26: { int r = remarks(), w = random.nextBoolean() ? 100 : in(0, 100); return due("squares", x.squares(r, w), y.squares(r, w), r, w); }
            case 27: { int r = remarks(), p = person(), q = person(), w = in(0, 199); return due("when", x.when(r, p, q, w), y.when(r, p, q, w), r, p, q, w); }
            case 28: return whoIsWho();
            case 29: { int r = remarks(), w = in(0, 2); return due("asks", x.asks(r, w), y.asks(r, w), r, w); }
            case 30: { int r = remarks(), w = remarks(); return due("unlike", x.unlike(r, w), y.unlike(r, w), r, w); }
            case 31: case 32: { int r = remarks(), w = in(0, 4); return due("shortest", x.shortest(r, w), y.shortest(r, w), r, w); }
            case 33: { int r = remarks(), k = formSaid(), w = in(0, 2); return due("often", x.often(r, k, w), y.often(r, k, w), r, k, w); }
            case 34: { int r = remarks(), p = person(); return due("middle", x.middle(r, p), y.middle(r, p), r, p); }
            case 35: { int r = remarks(), p = person(), q = person(), w = in(0, 2); return due("apart", x.apart(r, p, q, w), y.apart(r, p, q, w), r, p, q, w); }
            case 36: { int p = person(), q = person(), w = random.nextInt(3) == 0 ? -1 : in(0, random.nextInt(4) == 0 ? 99 : 4); return due("parent", x.parent(p, q, w), y.parent(p, q, w), p, q, w); }
            case 37: { int p = person(), w = in(0, 1); return due("tree", x.tree(p, w), y.tree(p, w), p, w); }
            case 38: return tyres();
            case 39: return butts();
            case 40: { int k = lineSaid(), w = in(0, 6); return due("plain", x.plain(k, w), y.plain(k, w), k, w); }
            case 41: { int k = lineSaid(), w = in(0, 3); return due("remarkIs", x.remarkIs(k, w), y.remarkIs(k, w), k, w); }
            case 42: { int r = remarks(), k = formSaid(), w = in(0, 1); due("worth", x.worth(r, k), y.worth(r, k), r, k); due("between", x.between(r, k, w), y.between(r, k, w), r, k, w); return 0; }
            case 43: { int n = in(1, 6), s = in(0, random.nextInt(4) == 0 ? 400 : 90), l = in(0, 30), h = in(l < 0 ? 0 : l % 99, 99); return due("howOld", x.howOld(n, s, l, h), y.howOld(n, s, l, h), n, s, l, h); }
            case 44: return keepOrUndo();
            default: return random.nextInt(4) > 0 ? check() : countAll();
        }
    }

    private long due(String call, boolean got, boolean want, int... with) {
        return due(call, got ? 1 : 0, want ? 1 : 0, with);
    }

    private long due(String call, long got, long want, int... with) {
        String told = call + Arrays.toString(with);
        story.add(told + " " + got);
        due.is("run " + run + ", " + told, got, want);
        return got;
    }

    private long person(int p) {
        if (p >= 0 && p < 6 && x.count(10 + p) >= 0 && random.nextInt(6) > 0) {
            return 0;
        }
        long others = 1;
        for (int q = 0; q < 6; q++) {
            others *= q == p || x.count(10 + q) < 0 ? 1 : x.count(20 + q) - x.count(10 + q) + 1;
        }
        int wide = (int) Math.max(1, Math.min(12, most / others));
        int low = random.nextInt(4) == 0 ? in(0, 99) : random.nextInt(20);
        int high = low + random.nextInt(wide);
        if (run % 9 == 1 && random.nextInt(6) == 0 || most == 4000 && others * 100 <= most) {
            low = 0;
            high = 99;
        }
        if (others * (high - (long) low + 1) > 4000 && others * (high - (long) low + 1) <= 200000) {
            high = low;
        }
        return due("person", x.person(p, low, high), y.person(p, low, high), p, low, high);
    }

    private int feedBoth(int[] bytes) {
        int had = -1;
        for (int from = 0; from == 0 || from < bytes.length; from += 20) {
            int[] f = new int[5];
            for (int i = 0; i < 20 && from + i < bytes.length; i++) {
                f[i / 4] |= (bytes[from + i] & 255) << (24 - i % 4 * 8);
            }
            had = x.feed(f[0], f[1], f[2], f[3], f[4]);
            due("feed", had, y.feed(f[0], f[1], f[2], f[3], f[4]), f);
        }
        return had;
    }

    private long feed() {
        int[] bytes = new int[20];
        for (int i = 0; i < 20; i++) {
            bytes[i] = random.nextInt(4) == 0 ? random.nextInt(256) : "ab+-*()=<>~123cdef@:AB0+-".charAt(random.nextInt(25));
        }
        if (x.count(4) > 0 && random.nextInt(20) > 0) {
            return 0;
        }
        return feedBoth(bytes);
    }

    /** Empties both tapes: a form that takes one byte of them, mostly with a fault. */
    private void emptyTapes() {
        if (x.count(4) > 0) {
            int k = random.nextInt(6);
            due("form", x.form(k, 1), y.form(k, 1), k, 1);
        }
    }

    private long tell(int k, boolean isRemark) {
        emptyTapes();
        String text = side(0);
        if (isRemark) {
            int sign = random.nextInt(8);
            text += sign < 4 ? "=" + right(text) : sign == 4 ? "<" + side(0) : sign == 5 ? ">" + side(0) : "~" + number();
        }
        if (random.nextInt(5) == 0) {
            text = spoilt(text);
        }
        if (text.length() > 60 && random.nextInt(10) > 0) {
            text = isRemark ? letter() + "=" + number() : letter() + "+" + letter();
        }
        int n = random.nextInt(40) == 0 ? in(1, text.length()) : text.length();
        int[] bytes = new int[text.length()];
        for (int i = 0; i < bytes.length; i++) {
            bytes[i] = text.charAt(i);
        }
        feedBoth(bytes);
        story.add(text);
        return isRemark ? due("remark", x.remark(k, n), y.remark(k, n), k, n) : due("form", x.form(k, n), y.form(k, n), k, n);
    }

    /** Mostly what the left side tells in some row, so that remarks are true now and then. */
    private String right(String left) {
        if (random.nextInt(4) == 0) {
            return side(0);
        }
        int[] row = new int[6];
        for (int p = 0; p < 6; p++) {
            int low = x.count(10 + p);
            row[p] = low < 0 ? 0 : low + random.nextInt(x.count(20 + p) - low + 1);
        }
        try {
            int tells = new NaiveUncle.Text(left, y).side(0).tells(p -> row[p] + y.addedTo(p, y.year));
            String before = random.nextInt(3) > 0 ? "" : letter() + "+";
            int rest = tells - (before.isEmpty() ? 0 : row[before.charAt(0) - 'a'] + y.addedTo(before.charAt(0) - 'a', y.year));
            return rest >= 0 && rest <= 999 ? before + rest : number();
        } catch (NaiveUncle.Fault fault) {
            return number();
        }
    }

    private String spoilt(String text) {
        StringBuilder spoilt = new StringBuilder(text);
        int at = random.nextInt(text.length() + 1);
        String signs = "abcdefg0123456789+-*()=<>~@:A ?";
        char sign = random.nextInt(20) == 0 ? (char) random.nextInt(256) : signs.charAt(random.nextInt(signs.length()));
        switch (random.nextInt(4)) {
            case 0: return spoilt.insert(at, sign).toString();
            case 1: return at == text.length() || text.length() < 2 ? text + sign : spoilt.deleteCharAt(at).toString();
            case 2: return spoilt.replace(at, Math.min(text.length(), at + 1), "" + sign).toString();
            default: return at == 0 ? "" + sign : text.substring(0, at);
        }
    }

    private String letter() {
        return "" + (char) ('a' + Math.floorMod(random.nextInt(12) == 0 ? random.nextInt(6) : person(), 6));
    }

    private String number() {
        return "" + (random.nextInt(12) == 0 ? random.nextInt(1000) : random.nextInt(12) == 0 ? random.nextInt(2000) : random.nextInt(20));
    }

    private String side(int depth) {
        StringBuilder text = new StringBuilder(term(depth));
        while (random.nextInt(3) == 0) {
            text.append(random.nextBoolean() ? '+' : '-').append(term(depth));
        }
        return text.toString();
    }

    private String term(int depth) {
        int letterAt = random.nextInt(3);
        StringBuilder text = new StringBuilder();
        int many = random.nextInt(3) > 0 ? 1 : 1 + random.nextInt(3);
        for (int i = 0; i < many; i++) {
            boolean withLetter = many == 1 ? letterAt > 0 : i == letterAt || random.nextInt(12) == 0;
            text.append(i > 0 ? "*" : "").append(withLetter ? lettered(depth) : number());
        }
        return text.toString();
    }

    private String lettered(int depth) {
        int sort = random.nextInt(12);
        if (depth < 8 && sort < 2) {
            return "(" + (random.nextInt(5) == 0 ? "((((" + letter() + "))))" : side(depth + 1)) + ")";
        }
        if (depth < 8 && sort == 2) {
            return letter() + "@(" + letter() + ":" + side(depth + 1) + ")";
        }
        return letter();
    }

    private long sayings() {
        emptyTapes();
        int many = 1 + random.nextInt(random.nextInt(4) == 0 ? 10 : 3);
        int[] bytes = new int[2 * many];
        for (int i = 0; i < many; i++) {
            bytes[2 * i] = 'A' + Math.floorMod(formSaid(), 6);
            bytes[2 * i + 1] = random.nextInt(2) == 0 ? '+' : '-';
        }
        if (random.nextInt(8) == 0) {
            bytes[random.nextInt(bytes.length)] = random.nextInt(256);
        }
        feedBoth(bytes);
        int n = random.nextInt(10) == 0 ? in(1, 20) : bytes.length;
        int r = remarks();
        int what = personOr(100);
        return due("sayings", x.sayings(r, n, what), y.sayings(r, n, what), r, n, what);
    }

    private long whoIsWho() {
        emptyTapes();
        int those = x.count(1) & (random.nextInt(3) == 0 ? 63 : random.nextInt(64));
        int n = random.nextInt(10) == 0 ? in(2, 6) : Integer.bitCount(those);
        int[] ages = new int[6];
        for (int i = 0; i < 6; i++) {
            ages[i] = random.nextInt(40) == 0 ? random.nextInt(256) : random.nextInt(30);
        }
        feedBoth(ages);
        int among = 0;
        for (int k = 0; k < 10; k++) {
            int in = x.remarkIs(k, 3);
            among |= in >= 0 && ((in & ~those) == 0 && random.nextInt(3) == 0 || random.nextInt(40) == 0) ? 1 << k : 0;
        }
        int r = among;
        int what = random.nextInt(3) == 0 ? 100 : oneOf(those, 0, 5);
        return due("whoIsWho", x.whoIsWho(n, those, r, what), y.whoIsWho(n, those, r, what), n, those, r, what);
    }

    private long tyres() {
        emptyTapes();
        int n = in(1, 8);
        int[] miles = new int[8];
        for (int i = 0; i < 8; i++) {
            miles[i] = random.nextInt(40) == 0 ? 0 : 1 + random.nextInt(random.nextInt(3) == 0 ? 255 : 12);
        }
        feedBoth(miles);
        int needed = random.nextInt(3) == 0 ? in(1, 8) : in(1, Math.max(1, Math.min(n, 8)));
        return due("tyres", x.tyres(n, needed), y.tyres(n, needed), n, needed);
    }

    private long butts() {
        emptyTapes();
        int[] butts = new int[6];
        for (int i = 0; i < 3; i++) {
            butts[i] = in(0, 20);
            butts[3 + i] = random.nextInt(3) == 0 ? in(0, Math.max(0, butts[i] % 30)) : random.nextInt(2) * butts[i];
        }
        feedBoth(butts);
        int much = in(0, random.nextInt(3) == 0 ? 20 : 8);
        return due("butts", x.butts(much), y.butts(much), much);
    }

    private long keepOrUndo() {
        return random.nextInt(3) == 0 ? due("keep", x.keep(), y.keep()) : due("undo", x.undo(), y.undo());
    }

    /** Mostly the row itself, or the row with one age changed. */
    private long check() {
        emptyTapes();
        int n = in(0, 6);
        int[] ages = new int[6];
        for (int p = 0; p < 6; p++) {
            int age = x.fit(x.count(2), p);
            ages[p] = age < 0 ? 0 : age;
        }
        if (random.nextBoolean()) {
            ages[random.nextInt(6)] = random.nextInt(256);
        }
        feedBoth(ages);
        return due("check", x.check(n), y.check(n), n);
    }

    private long countAll() {
        for (int what = -1; what < 42; what++) {
            due("count", x.count(what), y.count(what), what);
        }
        int what = in(0, 40);
        return due("count", x.count(what), y.count(what), what);
    }
}
