/** Promises 10 to 20, 27 to 32, 40: what is asked of all the rows that fit. */
public final class FittingTest {
    private static final Due DUE = new Due("fitting");
    private static final int EQUAL = 1;
    private static final int TEN = 2;
    private static final int OLD = 4;
    private static final int YOUNG = 8;
    private static final int FIVES = 16;
    private static final int ONE_MORE = 32;

    public static void main(String[] args) {
        fit();
        ageIs();
        aged();
        follows();
        clash();
        needless();
        settles();
        fewest();
        offByAYear();
        known();
        sayings();
        sayingsFaults();
        asks();
        unlike();
        shortest();
        shortestNow();
        often();
        middle();
        apart();
        between();
        order();
        stale();
        DUE.end();
    }

    private static UncleAges people(int... lowHigh) {
        UncleAges x = new UncleAges();
        for (int p = 0; p < lowHigh.length / 2; p++) {
            x.person(p, lowHigh[2 * p], lowHigh[2 * p + 1]);
        }
        return x;
    }

    /** Two from 0 to 9, and six remarks about them. */
    private static UncleAges six() {
        UncleAges x = people(0, 9, 0, 9);
        String[] texts = {"a=b", "a+b=10", "a>6", "b<3", "a~5", "a=b+1"};
        for (int k = 0; k < 6; k++) {
            Due.remark(x, k, texts[k]);
        }
        return x;
    }

    private static void fit() {
        UncleAges x = six();
        DUE.is("10: no REMARK", x.fit(0, 100), 100);
        int[] many = {10, 9, 30, 30, 20, 9};
        for (int k = 0; k < 6; k++) {
            DUE.is("10: REMARK " + k, x.fit(1 << k, 100), many[k]);
        }
        DUE.is("10: two", x.fit(EQUAL | TEN, 100), 1);
        DUE.is("10: a in it", x.fit(EQUAL | TEN, 0), 5);
        DUE.is("10: b in it", x.fit(EQUAL | TEN, 1), 5);
        DUE.is("10: the first of nine, a", x.fit(TEN, 0), 1);
        DUE.is("10: the first of nine, b", x.fit(TEN, 1), 9);
        DUE.is("10: none", x.fit(EQUAL | ONE_MORE, 100), 0);
        DUE.is("10: a in none", x.fit(EQUAL | ONE_MORE, 0), -2);
        DUE.is("10: one not told", x.fit(EQUAL, 2), -1);
        DUE.is("10: -1", x.fit(EQUAL, -1), -1);
        DUE.is("10: 99", x.fit(EQUAL, 99), -1);
        DUE.is("10: 102", x.fit(EQUAL, 102), -1);
        DUE.is("10: REMARK not told", x.fit(64, 100), -1);
        DUE.is("10: REMARK 10", x.fit(1024, 100), -1);
        DUE.is("10: all bits", x.fit(-1, 100), -1);
        DUE.is("10: all but one of none", x.fit(0, 101), 100);
        DUE.is("10: all but one of one", x.fit(EQUAL, 101), 100);
        DUE.is("10: all but one of two", x.fit(EQUAL | TEN, 101), 18);
        DUE.is("10: all but one of three", x.fit(EQUAL | TEN | OLD, 101), 7);
        DUE.is("10: all but one of two that clash", x.fit(EQUAL | ONE_MORE, 101), 19);
    }

    private static void ageIs() {
        UncleAges x = six();
        DUE.is("11: least", x.ageIs(TEN, 0, 0), 1);
        DUE.is("11: greatest", x.ageIs(TEN, 1, 1), 9);
        DUE.is("11: unlike", x.ageIs(TEN, 0, 2), 9);
        DUE.is("11: unlike of thirty ROWS", x.ageIs(OLD, 0, 2), 3);
        DUE.is("11: unlike of the other one", x.ageIs(OLD, 1, 2), 10);
        DUE.is("11: not all between", x.ageIs(FIVES, 0, 2), 2);
        x.years(7);
        DUE.is("11: in YEAR 0", x.ageIs(OLD, 0, 0), 7);
        DUE.is("11: least of none", x.ageIs(EQUAL | ONE_MORE, 0, 0), -2);
        DUE.is("11: greatest of none", x.ageIs(EQUAL | ONE_MORE, 0, 1), -2);
        DUE.is("11: unlike of none", x.ageIs(EQUAL | ONE_MORE, 0, 2), 0);
        DUE.is("11: what 3", x.ageIs(0, 0, 3), -1);
        DUE.is("11: what -1", x.ageIs(0, 0, -1), -1);
        DUE.is("11: one not told", x.ageIs(0, 2, 0), -1);
        DUE.is("11: REMARK not told", x.ageIs(64, 0, 0), -1);
    }

    private static void aged() {
        UncleAges x = six();
        DUE.is("12: seven", x.aged(OLD, 0, 7), 10);
        DUE.is("12: six", x.aged(OLD, 0, 6), 0);
        DUE.is("12: the other one", x.aged(OLD, 1, 0), 3);
        DUE.is("12: none fits", x.aged(EQUAL | ONE_MORE, 0, 0), 0);
        DUE.is("12: 99", x.aged(0, 0, 99), 0);
        DUE.is("12: 100", x.aged(0, 0, 100), -1);
        DUE.is("12: -1", x.aged(0, 0, -1), -1);
        DUE.is("12: one not told", x.aged(0, 5, 1), -1);
        DUE.is("12: REMARK not told", x.aged(512, 0, 1), -1);
    }

    private static void follows() {
        UncleAges x = six();
        DUE.is("13: in all", x.follows(OLD | YOUNG, 0), OLD | YOUNG);
        DUE.is("13: in none", x.follows(OLD | YOUNG, 1), EQUAL | FIVES | ONE_MORE);
        DUE.is("13: in (5, 5)", x.follows(EQUAL | TEN, 0), EQUAL | TEN | FIVES);
        DUE.is("13: none fits, all", x.follows(EQUAL | ONE_MORE, 0), 63);
        DUE.is("13: none fits, none", x.follows(EQUAL | ONE_MORE, 1), 63);
        DUE.is("13: of nothing", x.follows(0, 0), 0);
        DUE.is("13: what 2", x.follows(0, 2), -1);
        DUE.is("13: what -1", x.follows(0, -1), -1);
        DUE.is("13: REMARK not told", x.follows(64, 0), -1);
    }

    private static void clash() {
        UncleAges x = six();
        DUE.is("14: two", x.clash(EQUAL | ONE_MORE, 0), 2);
        DUE.is("14: which", x.clash(EQUAL | ONE_MORE, 1), EQUAL | ONE_MORE);
        DUE.is("14: three", x.clash(EQUAL | OLD | YOUNG, 0), 3);
        DUE.is("14: which three", x.clash(EQUAL | OLD | YOUNG, 1), EQUAL | OLD | YOUNG);
        DUE.is("14: two of four", x.clash(EQUAL | OLD | YOUNG | ONE_MORE, 1), EQUAL | ONE_MORE);
        DUE.is("14: of like ones the least bits", x.clash(EQUAL | OLD | FIVES | ONE_MORE, 1), OLD | FIVES);
        Due.remark(x, 6, "1=2");
        DUE.is("14: one", x.clash(EQUAL | ONE_MORE | 64, 0), 1);
        DUE.is("14: which one", x.clash(EQUAL | ONE_MORE | 64, 1), 64);
        DUE.is("14: a ROW fits", x.clash(EQUAL | TEN, 0), -2);
        DUE.is("14: of none", x.clash(0, 1), -2);
        DUE.is("14: what 2", x.clash(0, 2), -1);
        DUE.is("14: what -1", x.clash(0, -1), -1);
        DUE.is("14: REMARK not told", x.clash(128, 0), -1);
    }

    private static void needless() {
        UncleAges x = six();
        Due.remark(x, 7, "b=a");
        Due.remark(x, 8, "a>3");
        DUE.is("15: each by itself", x.needless(EQUAL | 128), EQUAL | 128);
        DUE.is("15: the wider one", x.needless(OLD | 256), 256);
        // Of a + b = 10 and a over 5 without a rest, (5, 5) alone is left as well.
        DUE.is("15: two, but not both at once", x.needless(EQUAL | TEN | FIVES), EQUAL | FIVES);
        DUE.is("15: none", x.needless(EQUAL | TEN), 0);
        DUE.is("15: of none", x.needless(0), 0);
        DUE.is("15: of a pair that clashes", x.needless(EQUAL | ONE_MORE), 0);
        DUE.is("15: of what clashes twice", x.needless(EQUAL | ONE_MORE | OLD | FIVES), 63 & (EQUAL | ONE_MORE | OLD | FIVES));
        DUE.is("15: REMARK not told", x.needless(512), -1);
    }

    private static void settles() {
        UncleAges x = six();
        DUE.is("16: beside a = b", x.settles(EQUAL), 1);
        DUE.is("16: beside a + b = 10", x.settles(TEN), 0);
        DUE.is("16: beside nothing", x.settles(0), -2);
        DUE.is("16: not one of these", x.settles(EQUAL | TEN), 4);
        DUE.is("16: none fits", x.settles(EQUAL | ONE_MORE), -2);
        Due.remark(x, 9, "10*a+b=37");
        DUE.is("16: one alone", x.settles(0), 9);
        DUE.is("16: REMARK not told", x.settles(64), -1);
    }

    private static void fewest() {
        UncleAges x = six();
        DUE.is("17: two", x.fewest(0, 0), 2);
        DUE.is("17: which", x.fewest(0, 1), EQUAL | TEN);
        DUE.is("17: one", x.fewest(EQUAL, 0), 1);
        DUE.is("17: which one", x.fewest(EQUAL, 1), TEN);
        DUE.is("17: none", x.fewest(EQUAL | TEN, 0), 0);
        DUE.is("17: none, which", x.fewest(EQUAL | TEN, 1), 0);
        DUE.is("17: none fits", x.fewest(EQUAL | ONE_MORE, 0), -2);
        DUE.is("17: what 2", x.fewest(0, 2), -1);
        DUE.is("17: what -1", x.fewest(0, -1), -1);
        DUE.is("17: REMARK not told", x.fewest(64, 0), -1);
        Due.remark(x, 9, "10*a+b=37");
        DUE.is("17: the fewest ahead of the least bits", x.fewest(0, 1), 512);
        DUE.is("17: one alone", x.fewest(0, 0), 1);
        UncleAges y = people(0, 1, 0, 1, 0, 1, 0, 1);
        for (int k = 0; k < 4; k++) {
            Due.remark(y, k, (char) ('a' + k) + "=1");
        }
        DUE.is("17: not by 3", y.fewest(0, 0), -2);
        DUE.is("17: by 3", y.fewest(1, 0), 3);
        DUE.is("17: by which 3", y.fewest(1, 1), 14);
        Due.remark(y, 4, "a=1");
        DUE.is("17: of like ones the least bits", y.fewest(0b1110, 1), 1);
    }

    private static void offByAYear() {
        UncleAges x = six();
        DUE.is("18: a = b and a = b + 1, which", x.offByAYear(EQUAL | ONE_MORE, 1), EQUAL);
        DUE.is("18: how many", x.offByAYear(EQUAL | ONE_MORE, 0), 1);
        DUE.is("18: with a + b = 10", x.offByAYear(EQUAL | TEN | ONE_MORE, 1), ONE_MORE);
        DUE.is("18: all hold", x.offByAYear(EQUAL | TEN, 0), 0);
        DUE.is("18: all hold, which", x.offByAYear(EQUAL | TEN, 1), 0);
        DUE.is("18: of none", x.offByAYear(0, 1), 0);
        Due.remark(x, 6, "a<7");
        DUE.is("18: only with =", x.offByAYear(OLD | 64, 0), -2);
        Due.remark(x, 7, "a=b+3");
        DUE.is("18: by two is too much", x.offByAYear(EQUAL | 128, 0), -2);
        Due.remark(x, 8, "a=b+2");
        DUE.is("18: both", x.offByAYear(EQUAL | 256, 0), 2);
        DUE.is("18: both, which", x.offByAYear(EQUAL | 256, 1), EQUAL | 256);
        DUE.is("18: the fewest", x.offByAYear(EQUAL | ONE_MORE | 256, 1), EQUAL | 256);
        Due.remark(x, 9, "a=10");
        DUE.is("18: right 1 more", x.offByAYear(512, 1), 512);
        Due.remark(x, 9, "a+1=0");
        DUE.is("18: left 1 more", x.offByAYear(512, 1), 512);
        DUE.is("18: what 2", x.offByAYear(0, 2), -1);
        DUE.is("18: what -1", x.offByAYear(0, -1), -1);
        Due.remark(x, 9, "1>2");
        DUE.is("18: that never holds", x.offByAYear(512, 0), -2);
        x.takeBack(9);
        DUE.is("18: REMARK not told", x.offByAYear(512, 0), -1);
    }

    private static void known() {
        UncleAges x = six();
        Due.form(x, 0, "a+b");
        Due.form(x, 1, "10*a-b");
        DUE.is("19: the least and the greatest sum", x.known(0, 0), 2);
        DUE.is("19: all", x.known(0, 1), 100);
        DUE.is("19: of a = b", x.known(EQUAL, 0), 10);
        DUE.is("19: of a + b = 10", x.known(TEN, 0), 0);
        DUE.is("19: none fits", x.known(EQUAL | ONE_MORE, 0), 0);
        DUE.is("19: FORM not told", x.known(0, 2), -1);
        DUE.is("19: -1", x.known(0, -1), -1);
        DUE.is("19: 6", x.known(0, 6), -1);
        DUE.is("19: REMARK not told", x.known(64, 0), -1);
        UncleAges y = people(0, 99, 0, 19);
        Due.form(y, 0, "20*a+b");
        DUE.is("19: of 2000", y.known(0, 0), 2000);
        y.person(1, 0, 20);
        DUE.is("19: of 2100", y.known(0, 0), -3);
        Due.remark(y, 0, "b<20");
        DUE.is("19: of 2000 of 2100", y.known(1, 0), 2000);
        Due.remark(y, 0, "21*a+b>98");
        DUE.is("19: of 2001", y.known(1, 0), -3);
        y.person(1, 0, 99);
        y.person(2, 0, 99);
        Due.remark(y, 0, "a+b+c=0");
        DUE.is("19: of 1000000 ROWS", y.known(1, 0), -3);
    }

    private static void sayings() {
        UncleAges x = people(0, 2, 0, 2);
        Due.form(x, 0, "a+b");
        Due.form(x, 1, "a");
        Due.form(x, 5, "3*a+b");
        DUE.is("20: A+", Due.sayings(x, 0, "A+", 100), 2);
        DUE.is("20: A-", Due.sayings(x, 0, "A-", 100), 7);
        DUE.is("20: A-A+", Due.sayings(x, 0, "A-A+", 100), 0);
        DUE.is("20: A-A-", Due.sayings(x, 0, "A-A-", 100), 7);
        DUE.is("20: A+B+", Due.sayings(x, 0, "A+B+", 100), 2);
        DUE.is("20: B+", Due.sayings(x, 0, "B+", 100), 0);
        DUE.is("20: F+", Due.sayings(x, 0, "F+", 100), 9);
        DUE.is("20: F-", Due.sayings(x, 0, "F-", 0), -2);
        DUE.is("20: A-, the first one's a", Due.sayings(x, 0, "A-", 0), 0);
        DUE.is("20: A-, the first one's b", Due.sayings(x, 0, "A-", 1), 1);
        DUE.is("20: twenty", Due.sayings(x, 0, "A-A-A-A-A-A-A-A-A-F+", 100), 7);
        Due.remark(x, 0, "a>0");
        Due.remark(x, 1, "a=3");
        DUE.is("20: of a > 0: 1 0, 1 1, 1 2, 2 0, 2 1, 2 2", Due.sayings(x, 1, "A+", 100), 2);
        DUE.is("20: the first one left", Due.sayings(x, 1, "A-", 1), 1);
        DUE.is("20: none fits", Due.sayings(x, 2, "A-", 100), 0);
        DUE.is("20: none fits, a", Due.sayings(x, 2, "A-", 0), -2);
        // They are left from 1 1, 1 2, 2 0, 2 1: of these B tells none, and A tells none.
        DUE.is("20: by the ROWS that are left", Due.sayings(x, 1, "A-B-A-", 100), 4);
    }

    private static void sayingsFaults() {
        UncleAges x = people(0, 2, 0, 2);
        Due.form(x, 0, "a+b");
        Due.remark(x, 0, "a>0");
        String[] texts = {"a+", "A", "AA", "+", "G+", "B+", "A+F-", "A+A", "A+A?", "A+\0", "A+?+", "\201+", "B?"};
        int[] due = {-1000, -1001, -1001, -1000, -1000, -7000, -7002, -1003, -1003, -1002, -1002, -1000, -7000};
        for (int i = 0; i < texts.length; i++) {
            DUE.is("20: " + texts[i], Due.sayings(x, 0, texts[i], 100), due[i]);
            DUE.is("20: empty then", x.count(4), 0);
        }
        DUE.is("20: empty at the start", x.sayings(0, 1, 100), -1);
        Due.text(x, "A+A+A+A+A+A+A+A+A+A+A+");
        DUE.is("20: 0 bytes", x.sayings(0, 0, 100), -1);
        DUE.is("20: 21 bytes", x.sayings(0, 21, 100), -1);
        DUE.is("20: one not told", x.sayings(0, 2, 2), -1);
        DUE.is("20: what 101", x.sayings(0, 2, 101), -1);
        DUE.is("20: REMARK not told", x.sayings(2, 2, 100), -1);
        DUE.is("20: the tape stays", x.count(4), 40);
        DUE.is("20: 20 bytes", x.sayings(0, 20, 100), 2);
        DUE.is("20: empty then", x.count(4), 0);
        x.person(2, 0, 99);
        x.person(3, 0, 2);
        DUE.is("20: 2700 FIT", Due.sayings(x, 0, "A+", 100), -3);
        DUE.is("20: empty then", x.count(4), 0);
        DUE.is("20: 1800 FIT", Due.sayings(x, 1, "A-", 100), 1800);
        x.person(3, 0, 99);
        DUE.is("20: 90000 FIT, a FAULT is asked first", Due.sayings(x, 0, "A", 0), -1001);
        x.person(4, 0, 99);
        DUE.is("20: 9000000 ROWS", Due.sayings(x, 0, "A+", 0), -3);
        DUE.is("20: a FAULT is asked first", Due.sayings(x, 0, "B+", 0), -7000);
    }

    private static void asks() {
        UncleAges x = six();
        x.takeBack(4);
        x.takeBack(5);
        DUE.is("27: nearest to 50, the lowest", x.asks(0, 0), 2);
        DUE.is("27: kindest, the lowest", x.asks(0, 1), 2);
        DUE.is("27: sharpest", x.asks(0, 2), 1);
        Due.remark(x, 4, "a~5");
        Due.remark(x, 5, "a=b+1");
        DUE.is("27: nearest to 15 of 3, 3, 9, 0, 3", x.asks(OLD, 0), 3);
        DUE.is("27: kindest of these", x.asks(OLD, 1), 3);
        DUE.is("27: sharpest that leaves one", x.asks(OLD, 2), 0);
        Due.remark(x, 6, "a<8");
        Due.remark(x, 7, "a>4");
        DUE.is("27: 80 is as far from 50 as 20 is", x.asks(0, 0), 7);
        x.takeBack(7);
        x.takeBack(2);
        x.takeBack(3);
        DUE.is("27: of 20 and 80 the lowest", x.asks(0, 0), 4);
        DUE.is("27: none fits", x.asks(EQUAL | ONE_MORE, 0), -2);
        UncleAges y = people(0, 9);
        Due.remark(y, 0, "a=3");
        Due.remark(y, 1, "a=4");
        DUE.is("27: ASK NEXT one that leaves none", y.asks(1, 0), 1);
        DUE.is("27: kindest must leave one", y.asks(1, 1), -2);
        DUE.is("27: sharpest must leave one", y.asks(1, 2), -2);
        DUE.is("27: no other one", y.asks(3, 0), -2);
        y.takeBack(1);
        DUE.is("27: no other one that fits", y.asks(1, 0), -2);
        DUE.is("27: what 3", y.asks(0, 3), -1);
        DUE.is("27: what -1", y.asks(0, -1), -1);
        DUE.is("27: REMARK not told", y.asks(2, 0), -1);
    }

    private static void unlike() {
        UncleAges x = six();
        DUE.is("28: 10 and 9 with 1", x.unlike(EQUAL, TEN), 17);
        DUE.is("28: all and 10", x.unlike(0, EQUAL), 90);
        DUE.is("28: of itself", x.unlike(OLD, OLD), 0);
        DUE.is("28: a part", x.unlike(OLD | YOUNG, OLD), 21);
        DUE.is("28: REMARK not told", x.unlike(64, 0), -1);
        DUE.is("28: other REMARK not told", x.unlike(0, 64), -1);
    }

    private static void shortestIs(UncleAges x, int remarks, int... due) {
        for (int what = 0; what < 5; what++) {
            DUE.is("29: of " + due[0] + " signs, what " + what, x.shortest(remarks, what), due.length == 1 ? due[0] : due[what]);
        }
    }

    private static void shortest() {
        UncleAges x = six();
        shortestIs(x, TEN, 3, 0, 0, -2, 1);
        shortestIs(x, EQUAL | ONE_MORE, -2);
        shortestIs(x, 64, -1);
        DUE.is("29: what 5", x.shortest(0, 5), -1);
        DUE.is("29: what -1", x.shortest(0, -1), -1);
        shortestIs(people(), 0, -2);
        shortestIs(people(7, 7), 0, 3, 0, 0, -2, 7);
        shortestIs(people(9, 10), 0, 3, 0, 0, -2, 9);
        shortestIs(people(10, 12), 0, 4, 0, 0, -2, 10);
        shortestIs(people(10, 12, 5, 5, 3, 4), 0, -2);
        UncleAges older = people(5, 6, 2, 3);
        Due.remark(older, 0, "a+b<9");
        shortestIs(older, 1, 5, 1, 0, 1, 3);
        shortestIs(people(4, 5, 2, 3), 0, 5, 2, 0, 1, 2);
        shortestIs(people(2, 3, 4, 5), 0, 5, 2, 1, 0, 2);
        UncleAges both = people(20, 21, 10, 11);
        Due.remark(both, 0, "a+b<32");
        shortestIs(both, 1, 5, 2, 0, 1, 2);
        shortestIs(people(0, 1, 0, 1), 0, -2);
        shortestIs(people(20, 21, 2, 3), 0, 6, 2, 0, 1, 10);
        // 5 5 1 and 5 6 2: a = b + 0 is none of these, b = 5 and c = 1 have three signs each.
        UncleAges pairs = people(5, 5, 5, 6, 1, 2);
        Due.remark(pairs, 0, "b=c+4");
        shortestIs(pairs, 1, 3, 0, 1, -2, 5);
        UncleAges many = people(0, 99, 0, 19);
        shortestIs(many, 0, -2);
        many.person(1, 0, 20);
        shortestIs(many, 0, -3);
    }

    private static void shortestNow() {
        UncleAges x = people(20, 21, 10, 11);
        Due.remark(x, 0, "a+b<32");
        x.years(5);
        shortestIs(x, 1, 6, 1, 0, 1, 10);
        x.dies(1, 2);
        shortestIs(x, 1, 6, 1, 0, 1, 13);
        x.dies(1, 5);
        shortestIs(x, 1, 6, 1, 0, 1, 10);
        UncleAges one = people(95, 97);
        one.years(5);
        shortestIs(one, 0, 5, 0, 0, -2, 100);
        one.dies(0, 4);
        shortestIs(one, 0, 4, 0, 0, -2, 99);
        // 98 times as old can be said, 148 times not.
        UncleAges wide = people(1, 2, 98, 99);
        wide.dies(0, 0);
        shortestIs(wide, 0, 6, 2, 1, 0, 98);
        wide.years(1);
        shortestIs(wide, 0, 6, 2, 1, 0, 99);
        wide.years(1);
        shortestIs(wide, 0, -2);
    }

    private static void often() {
        UncleAges x = six();
        Due.form(x, 0, "a+b");
        Due.form(x, 1, "0-a");
        DUE.is("30: unlike sums", x.often(0, 0, 0), 19);
        DUE.is("30: most often", x.often(0, 0, 1), 10);
        DUE.is("30: which", x.often(0, 0, 2), 9);
        DUE.is("30: of like ones the least", x.often(0, 1, 2), -9);
        DUE.is("30: ten of each", x.often(0, 1, 1), 10);
        DUE.is("30: unlike by a REMARK", x.often(TEN, 0, 0), 1);
        DUE.is("30: nine", x.often(TEN, 0, 1), 9);
        DUE.is("30: none fits, unlike", x.often(EQUAL | ONE_MORE, 0, 0), 0);
        DUE.is("30: none fits, how often", x.often(EQUAL | ONE_MORE, 0, 1), 0);
        DUE.is("30: none fits, which", x.often(EQUAL | ONE_MORE, 0, 2), -2);
        x.years(5);
        Due.form(x, 2, "a+b");
        DUE.is("30: as it was told in YEAR 5", x.often(0, 2, 2), 19);
        DUE.is("30: FORM not told", x.often(0, 3, 0), -1);
        DUE.is("30: what 3", x.often(0, 0, 3), -1);
        DUE.is("30: what -1", x.often(0, 0, -1), -1);
        DUE.is("30: REMARK not told", x.often(64, 0, 0), -1);
        UncleAges y = people(0, 99, 0, 20);
        Due.form(y, 0, "b");
        DUE.is("30: 2100 FIT", y.often(0, 0, 0), -3);
        y.person(1, 0, 19);
        DUE.is("30: 2000 FIT", y.often(0, 0, 1), 100);
    }

    private static void middle() {
        UncleAges x = six();
        DUE.is("31: of two the lower", x.middle(0, 0), 4);
        DUE.is("31: of nine", x.middle(TEN, 0), 5);
        DUE.is("31: by ROWS, not by unlike ones", x.middle(ONE_MORE, 1), 4);
        DUE.is("31: of 20", x.middle(FIVES, 0), 0);
        DUE.is("31: of one", x.middle(EQUAL | TEN, 1), 5);
        DUE.is("31: none fits", x.middle(EQUAL | ONE_MORE, 0), -2);
        DUE.is("31: one not told", x.middle(0, 2), -1);
        DUE.is("31: REMARK not told", x.middle(64, 0), -1);
        Due.remark(x, 6, "a+b>15");
        // 7 9, 8 8, 8 9, 9 7, 9 8, 9 9
        DUE.is("31: of 7 8 8 9 9 9", x.middle(64, 0), 8);
    }

    private static void apart() {
        UncleAges x = six();
        DUE.is("32: least", x.apart(TEN, 0, 1, 0), -8);
        DUE.is("32: most", x.apart(TEN, 0, 1, 1), 8);
        DUE.is("32: of one AGE", x.apart(TEN, 0, 1, 2), 1);
        DUE.is("32: least of the old", x.apart(OLD, 0, 1, 0), -2);
        DUE.is("32: the other way round", x.apart(OLD, 1, 0, 0), -9);
        DUE.is("32: most of the other way round", x.apart(OLD, 1, 0, 1), 2);
        DUE.is("32: all above 0", x.apart(OLD | YOUNG, 0, 1, 0), 5);
        DUE.is("32: none fits", x.apart(EQUAL | ONE_MORE, 0, 1, 0), -200);
        DUE.is("32: none fits, most", x.apart(EQUAL | ONE_MORE, 0, 1, 1), -200);
        DUE.is("32: none fits, of one AGE", x.apart(EQUAL | ONE_MORE, 0, 1, 2), 0);
        x.dies(0, 0);
        x.years(50);
        DUE.is("32: in YEAR 0", x.apart(0, 0, 1, 1), 9);
        DUE.is("32: the same one", x.apart(0, 0, 0, 0), -400);
        DUE.is("32: one not told", x.apart(0, 0, 2, 0), -400);
        DUE.is("32: -1", x.apart(0, -1, 0, 0), -400);
        DUE.is("32: what 3", x.apart(0, 0, 1, 3), -400);
        DUE.is("32: what -1", x.apart(0, 0, 1, -1), -400);
        DUE.is("32: REMARK not told", x.apart(64, 0, 1, 0), -400);
    }

    private static void between() {
        UncleAges x = six();
        Due.form(x, 0, "a-b");
        Due.form(x, 4, "a+1");
        DUE.is("40: least", x.between(0, 0, 0), -9);
        DUE.is("40: most", x.between(0, 0, 1), 9);
        DUE.is("40: least by a REMARK", x.between(OLD, 0, 0), -2);
        DUE.is("40: least above 0", x.between(OLD, 4, 0), 8);
        Due.form(x, 5, "0-1-b");
        DUE.is("40: most below 0", x.between(0, 5, 1), -1);
        DUE.is("40: none fits", x.between(EQUAL | ONE_MORE, 4, 0), 0);
        DUE.is("40: FORM not told", x.between(0, 1, 1), 0);
        DUE.is("40: what 2", x.between(0, 4, 2), 0);
        DUE.is("40: what -1", x.between(0, 4, -1), 0);
        DUE.is("40: REMARK not told", x.between(64, 4, 1), 0);
        x.years(3);
        Due.form(x, 4, "a+1");
        DUE.is("40: said in YEAR 3", x.between(OLD, 4, 0), 11);
        x.person(2, 0, 99);
        x.person(3, 0, 19);
        DUE.is("40: of 200000", x.between(0, 4, 1), 13);
        x.person(3, 0, 20);
        DUE.is("40: more than 200000", x.between(0, 4, 1), 0);
    }

    /** NONE is asked first, then -3, then -2. */
    private static void order() {
        UncleAges x = people(0, 99, 0, 99, 0, 99);
        Due.remark(x, 0, "1=2");
        Due.form(x, 0, "a");
        int[] got = {x.fit(1, 100), x.fit(1, 101), x.fit(1, 0), x.ageIs(1, 0, 0), x.ageIs(1, 0, 2), x.aged(1, 0, 0),
                x.follows(1, 0), x.clash(1, 0), x.needless(1), x.settles(1), x.fewest(1, 0), x.offByAYear(1, 0),
                x.known(1, 0), x.asks(1, 0), x.unlike(1, 0), x.shortest(1, 0), x.often(1, 0, 0), x.middle(1, 0)};
        for (int i = 0; i < got.length; i++) {
            DUE.is("10 to 31: -3, " + i, got[i], -3);
        }
        DUE.is("32: -300", x.apart(1, 0, 1, 0), -300);
        int[] none = {x.fit(2, 100), x.fit(1, 3), x.ageIs(1, 3, 0), x.aged(1, 0, 100), x.follows(1, 2), x.clash(1, 2),
                x.needless(2), x.settles(2), x.fewest(1, 2), x.offByAYear(1, 2), x.known(1, 1), x.asks(1, 3),
                x.unlike(1, 2), x.shortest(1, 5), x.often(1, 0, 3), x.middle(1, 3)};
        for (int i = 0; i < none.length; i++) {
            DUE.is("10 to 31: NONE, " + i, none[i], -1);
        }
        DUE.is("32: -400", x.apart(1, 0, 3, 0), -400);
    }

    /** What was counted is not counted on when what is told changes. */
    private static void stale() {
        UncleAges x = people(0, 9);
        Due.remark(x, 0, "a<5");
        DUE.is("10: a<5", x.fit(1, 100), 5);
        Due.remark(x, 0, "a<6");
        DUE.is("10: a<6", x.fit(1, 100), 6);
        x.person(0, 0, 3);
        DUE.is("10: a 0 to 3", x.fit(1, 100), 4);
        x.keep();
        x.person(1, 0, 1);
        DUE.is("10: b as well", x.fit(1, 100), 8);
        x.undo();
        DUE.is("10: undone", x.fit(1, 100), 4);
        x.takeBack(0);
        Due.remark(x, 1, "a<2");
        DUE.is("10: another one", x.fit(2, 100), 2);
        for (int p = 0; p < 4; p++) {
            x.person(p, 0, 99);
        }
        DUE.is("10: too many", x.fit(2, 100), -3);
        x.undo();
        DUE.is("10: no more", x.fit(1, 100), 4);
    }
}
