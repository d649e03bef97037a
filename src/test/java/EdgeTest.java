/** The edges that the promises name, by their numbers: the last one that is taken, and the first one that isn't. */
public final class EdgeTest {
    private static final Due DUE = new Due("edge");

    public static void main(String[] args) {
        lastPersonInRows();
        lastPersonInTheRow();
        lastRemark();
        lastPersonLeft();
        firstBytes();
        years();
        feed();
        fit();
        oneRowAlone();
        clashAndNeedless();
        fewest();
        offByAYear();
        knownAndSayings();
        isTrue();
        together();
        turned();
        squares();
        when();
        whoIsWho();
        asks();
        shortestNumbers();
        shortestOfLikeOnes();
        often();
        middleAndApart();
        tree();
        tyres();
        butts();
        howOld();
        check();
        count();
        DUE.end();
    }

    /** a to e of one AGE each, f 50 to 52; REMARK 9 and FORM 5 are about f. */
    private static UncleAges withLast() {
        UncleAges x = Due.people(10, 10, 20, 20, 30, 30, 40, 40, 50, 50, 50, 52);
        Due.remark(x, 9, "f=51");
        Due.form(x, 5, "f");
        return x;
    }

    private static void lastPersonInRows() {
        UncleAges x = withLast();
        DUE.is("9", x.rows(), 3);
        DUE.is("10: f in the first one", x.fit(0, 5), 50);
        DUE.is("10: f by REMARK 9", x.fit(512, 5), 51);
        DUE.is("11: least", x.ageIs(0, 5, 0), 50);
        DUE.is("11: greatest", x.ageIs(0, 5, 1), 52);
        DUE.is("11: unlike", x.ageIs(0, 5, 2), 3);
        DUE.is("12: 52", x.aged(0, 5, 52), 1);
        DUE.is("12: 53", x.aged(0, 5, 53), 0);
        DUE.is("19: three", x.known(0, 5), 3);
        DUE.is("20: f in the first one left", Due.sayings(x, 0, "F+", 5), 50);
        DUE.is("29: signs", x.shortest(0, 0), 4);
        DUE.is("29: sort", x.shortest(0, 1), 0);
        DUE.is("29: first one", x.shortest(0, 2), 5);
        DUE.is("29: no second one", x.shortest(0, 3), -2);
        DUE.is("29: number", x.shortest(0, 4), 50);
        DUE.is("30: three", x.often(0, 5, 0), 3);
        DUE.is("31: the middle", x.middle(0, 5), 51);
        DUE.is("32: at least", x.apart(0, 5, 0, 0), 40);
        DUE.is("32: at most", x.apart(0, 5, 0, 1), 42);
        DUE.is("32: the other way round", x.apart(0, 0, 5, 0), -42);
        DUE.is("32: of one AGE", x.apart(0, 4, 5, 2), 1);
        DUE.is("37: of f", x.plain(9, 5), 1);
        DUE.is("37: of f in FORM 5", x.plain(15, 5), 1);
        DUE.is("38: f stands in it", x.remarkIs(9, 3), 32);
        DUE.is("38: f stands in FORM 5", x.remarkIs(15, 3), 32);
        DUE.is("39: f", x.worth(512, 5), 51);
        DUE.is("40: f at most", x.between(0, 5, 1), 52);
        DUE.is("45: LOW", x.count(15), 50);
        DUE.is("45: HIGH", x.count(25), 52);
        DUE.is("45: lives", x.count(35), -2);
        DUE.is("3: dead", x.dies(5, 3), true);
        DUE.is("45: dead", x.count(35), 3);
        UncleAges second = Due.people(60, 61, 3, 3, 3, 3, 3, 3, 3, 3, 30, 31);
        Due.remark(second, 0, "a+f<92");
        DUE.is("29: a=2*f", second.shortest(1, 0), 5);
        DUE.is("29: the second one", second.shortest(1, 3), 5);
        UncleAges first = Due.people(30, 31, 3, 3, 3, 3, 3, 3, 3, 3, 60, 61);
        Due.remark(first, 0, "a+f<92");
        DUE.is("29: f=2*a", first.shortest(1, 0), 5);
        DUE.is("29: f ahead of it", first.shortest(1, 2), 5);
    }

    private static void lastPersonInTheRow() {
        UncleAges x = withLast();
        DUE.is("21: f will be 51", x.isTrue(0, 9, 2), 1);
        DUE.is("22: f and a + b", x.together(0, 5, 3), 20);
        DUE.is("22: a and e + f", x.together(0, 0, 48), -90);
        DUE.is("22: a and all the others", x.together(0, 0, 62), -45);
        DUE.is("25: f when a was 0", x.when(0, 5, 0, 0), 40);
        DUE.is("25: a when f was 0", x.when(0, 0, 5, 0), -40);
        Due.bytes(x, 10, 20, 30, 40, 50, 51);
        DUE.is("44: right", x.check(6), -1);
        Due.bytes(x, 10, 20, 30, 40, 50, 50);
        DUE.is("44: f", x.check(6), 5);
        Due.bytes(x, 10, 20, 30, 40, 50, 50);
        DUE.is("44: f isn't asked", x.check(5), -1);
        Due.bytes(x, 1, 2, 3, 4, 5, 51);
        DUE.is("26: f", x.whoIsWho(6, 63, 512, 5), 5);
        Due.bytes(x, 51, 2, 3, 4, 5, 6);
        DUE.is("26: f is the first one, the others in a row", x.whoIsWho(6, 63, 512, 4), 5);
        x.person(5, 49, 49);
        DUE.is("24: 49 alone is a square", x.squares(0, 0), 1);
        x.person(5, 31, 31);
        x.person(0, 13, 13);
        DUE.is("23: f and a", x.turned(0, 5, 0, 0), 7);
        DUE.is("23: a and f", x.turned(0, 0, 5, 1), 0);
        UncleAges y = Due.people(0, 99, 0, 99, 0, 99, 0, 99, 0, 99, 0, 99);
        DUE.is("33: f is e's parent", y.parent(5, 4, 18), true);
        DUE.is("34: least of f", y.tree(5, 0), 18);
        DUE.is("34: greatest of e", y.tree(4, 1), 81);
        DUE.is("33: e is f's parent", y.parent(4, 5, 0), true);
        DUE.is("34: it can't be", y.tree(5, 1), -2);
    }

    private static void lastRemark() {
        UncleAges x = withLast();
        DUE.is("10: how many", x.fit(512, 100), 1);
        DUE.is("10: all but one", x.fit(512, 101), 3);
        DUE.is("13: it follows from itself", x.follows(512, 0), 512);
        DUE.is("16: settles", x.settles(0), 9);
        DUE.is("17: fewest", x.fewest(0, 1), 512);
        DUE.is("27: ask next", x.asks(0, 0), 9);
        DUE.is("27: kindest, of one ROW", x.asks(0, 1), 9);
        DUE.is("27: sharpest, of one ROW", x.asks(0, 2), 9);
        DUE.is("28: unlike", x.unlike(0, 512), 2);
        DUE.is("28: unlike, the other way round", x.unlike(512, 0), 2);
        Due.remark(x, 0, "e=f");
        DUE.is("10: all but one of two", x.fit(513, 101), 2);
        DUE.is("13: in none", x.follows(1, 1), 512);
        DUE.is("14: clash", x.clash(513, 1), 513);
        DUE.is("18: of like ones the least bits", x.offByAYear(513, 1), 1);
        Due.remark(x, 8, "f<52");
        DUE.is("15: 8 is needless beside 9", x.needless(768), 256);
        Due.remark(x, 9, "f<53");
        DUE.is("15: 9 is needless beside 8", x.needless(768), 512);
        Due.remark(x, 9, "f=53");
        DUE.is("14: it clashes alone", x.clash(1023 & x.count(2), 1), 512);
        DUE.is("18: it is off", x.offByAYear(512, 1), 512);
        DUE.is("8: taken back", x.takeBack(9), true);
        DUE.is("10: no such one", x.fit(512, 100), -1);
        DUE.is("20: FORM 5", Due.sayings(x, 0, "F-", 100), 0);
        DUE.is("20: ahead of A", Due.sayings(x, 0, "@+", 100), -1000);
        DUE.is("20: behind F", Due.sayings(x, 0, "G+", 100), -1000);
    }

    /** Those that are left by a SAYING are whole ROWS. */
    private static void lastPersonLeft() {
        UncleAges x = Due.people(0, 1, 5, 5, 5, 5, 5, 5, 5, 5, 50, 51);
        Due.form(x, 0, "a+f");
        Due.form(x, 1, "f");
        Due.form(x, 2, "a+1");
        DUE.is("20: 0 and 51, 1 and 50", Due.sayings(x, 0, "A-", 100), 2);
        DUE.is("20: f in the first one", Due.sayings(x, 0, "A-", 5), 51);
        DUE.is("20: a in the first one", Due.sayings(x, 0, "A-", 0), 0);
        DUE.is("20: by f both are known", Due.sayings(x, 0, "A-B+", 100), 2);
        DUE.is("20: by a, too", Due.sayings(x, 0, "A-C+B+", 5), 51);
        DUE.is("20: by both none", Due.sayings(x, 0, "A-A-B-", 100), 0);
        DUE.is("20: none is left", Due.sayings(x, 0, "A-A-B-", 5), -2);
        DUE.is("20: none is left, and then", Due.sayings(x, 0, "B+A-A-B-", 100), 0);
    }

    /** By the first n bytes of the tape: those behind them are not asked. */
    private static void firstBytes() {
        UncleAges x = Due.people(1, 3, 1, 3);
        Due.text(x, "a=1+2");
        DUE.is("6: of three bytes", x.remark(0, 3), 1);
        DUE.is("6: a=1", x.fit(1, 0), 1);
        Due.text(x, "a=b+1234");
        DUE.is("6: of seven bytes", x.remark(0, 7), 2);
        DUE.is("6: a=b+123", x.plain(0, 6), -123);
        Due.text(x, "a+7*c");
        DUE.is("7: of three bytes", x.form(0, 3), 1);
        DUE.is("7: a+7", x.plain(10, 6), 7);
        Due.text(x, "a@(b:1)");
        DUE.is("7: of one byte", x.form(1, 1), 1);
        DUE.is("7: a", x.plain(11, 1), 0);
        DUE.is("20: nobody knows", Due.sayings(x, 0, "A-B-", 100), 9);
        Due.text(x, "A-B+??");
        DUE.is("20: of two bytes", x.sayings(0, 2, 100), 9);
        Due.text(x, "A-B+??");
        DUE.is("20: of four bytes", x.sayings(0, 4, 100), 0);
        Due.bytes(x, 3, 1, 200);
        DUE.is("26: of two bytes", x.whoIsWho(2, 3, 0, 100), 2);
        Due.bytes(x, 3, 1, 0);
        DUE.is("35: of two bytes", x.tyres(2, 1), 4);
        Due.bytes(x, 8, 5, 3, 8, 0, 0, 255);
        DUE.is("36: of six bytes", x.butts(4), 6);
        Due.bytes(x, 1, 1, 9);
        DUE.is("44: of two bytes", x.check(2), -2);
        x.takeBack(0);
        Due.bytes(x, 1, 1, 9);
        DUE.is("44: of two bytes", x.check(2), -1);
        DUE.is("empty then", x.count(4), 0);
    }

    private static void years() {
        UncleAges x = new UncleAges();
        for (int n : new int[] {0, -1, 100, Integer.MIN_VALUE, Integer.MAX_VALUE}) {
            DUE.is("4: " + n, x.years(n), -1);
        }
        DUE.is("4: 98", x.years(98), 98);
        DUE.is("4: above 99", x.years(2), -1);
        DUE.is("4: far above 99", x.years(Integer.MAX_VALUE), -1);
        DUE.is("4: to 99", x.years(1), 99);
        DUE.is("4: above 99 by one", x.years(1), -1);
    }

    /** Twenty bytes, the highest of each int first; more than 260 are refused. */
    private static void feed() {
        UncleAges x = Due.people(0, 99);
        x.feed(0x612b302b, 0x302b302b, 0x302b302b, 0x302b302b, 0x302b3037);
        DUE.is("5: to the twentieth byte", x.form(0, 20), 1);
        DUE.is("5: that is a 7", x.plain(10, 6), 7);
        for (int had = 20; had <= 260; had += 20) {
            DUE.is("5: " + had, x.feed(0x32323232, 0x32323232, 0x32323232, 0x32323232, 0x32323232), had);
        }
        DUE.is("5: 280", x.feed(0x613d3700, 0, 0, 0, 0), -1);
        DUE.is("5: 260 still", x.count(4), 260);
        DUE.is("5: the first ones", x.form(0, 3), 0);
        DUE.is("5: 222", x.plain(10, 6), 222);
        DUE.is("5: empty", x.count(4), 0);
        DUE.is("5: from the start again", x.feed(-1, -1, -1, -1, -1), 20);
        DUE.is("5: bytes of 255", x.form(0, 1), -1000);
    }

    private static void fit() {
        UncleAges x = Due.people(0, 9);
        String[] texts = {"a<5", "a>3", "a~2"};
        for (int k = 0; k < 3; k++) {
            Due.remark(x, k, texts[k]);
        }
        DUE.is("10: all", x.fit(7, 100), 1);
        DUE.is("10: all but one of none", x.fit(0, 101), 10);
        DUE.is("10: all but one of one", x.fit(1, 101), 10);
        // 0 2 4 hold the first and the last one, 6 8 the last two, 4 all.
        DUE.is("10: all but one of three", x.fit(7, 101), 5);
        Due.remark(x, 3, "a>9");
        DUE.is("10: none", x.fit(8, 100), 0);
        DUE.is("10: a of none", x.fit(8, 0), -2);
        DUE.is("10: all but that", x.fit(15, 101), 1);
        DUE.is("11: least of none", x.ageIs(8, 0, 0), -2);
        DUE.is("11: greatest of none", x.ageIs(8, 0, 1), -2);
        DUE.is("11: unlike of none", x.ageIs(8, 0, 2), 0);
        DUE.is("12: of none", x.aged(8, 0, 0), 0);
        DUE.is("13: none FITS: all", x.follows(8, 0), 15);
        DUE.is("13: none FITS: both all", x.follows(8, 1), 15);
        DUE.is("13: of one ROW in all", x.follows(7, 0), 7);
        DUE.is("13: of one ROW in none", x.follows(7, 1), 8);
    }

    /** One ROW alone: neither none nor two. */
    private static void oneRowAlone() {
        UncleAges x = Due.people(0, 9);
        Due.remark(x, 0, "a<0");
        Due.remark(x, 1, "a<2");
        DUE.is("16: by none, by two", x.settles(0), -2);
        DUE.is("17: by none, by two", x.fewest(0, 0), -2);
        Due.remark(x, 7, "a<1");
        DUE.is("16: by one", x.settles(0), 7);
        DUE.is("17: by one", x.fewest(0, 1), 128);
        Due.remark(x, 5, "a=4");
        DUE.is("16: the lowest", x.settles(0), 5);
        DUE.is("17: the least bits", x.fewest(0, 1), 32);
        DUE.is("16: in addition to two", x.settles(2), 7);
        DUE.is("16: in addition to one alone, whatever holds in it", x.settles(128), 1);
        DUE.is("17: in addition to one alone none", x.fewest(128, 0), 0);
        DUE.is("16: in addition to none", x.settles(1), -2);
        x.person(0, 4, 4);
        DUE.is("17: one ROW of all", x.fewest(0, 0), 0);
        DUE.is("16: whatever holds in it", x.settles(0), 5);
    }

    private static void clashAndNeedless() {
        UncleAges x = Due.people(0, 9);
        String[] texts = {"a<7", "a>2", "a~5", "a-1~5", "a=5", "a=6", "1=1"};
        for (int k = 0; k < texts.length; k++) {
            Due.remark(x, k, texts[k]);
        }
        DUE.is("14: a ROW FITS", x.clash(3, 0), -2);
        DUE.is("14: a ROW FITS, which", x.clash(3, 1), -2);
        DUE.is("14: of none", x.clash(0, 0), -2);
        DUE.is("14: 2 and 3", x.clash(127, 1), 12);
        DUE.is("14: two", x.clash(127, 0), 2);
        DUE.is("14: 2 and 5", x.clash(127 & ~8, 1), 36);
        DUE.is("14: 3 and 4", x.clash(127 & ~36, 1), 24);
        DUE.is("15: what always holds", x.needless(64), 64);
        DUE.is("15: beside others", x.needless(67), 64);
        DUE.is("15: beside a=5: each, but not a=5", x.needless(1 | 2 | 16), 3);
        DUE.is("15: none FITS with two of them", x.needless(12), 0);
        DUE.is("15: none FITS, but one does without a=5", x.needless(8 | 16 | 32), 8 | 32);
    }

    private static void fewest() {
        UncleAges x = Due.people(0, 15);
        for (int bit = 0; bit < 4; bit++) {
            // Each of these leaves the half of what the others leave.
            int low = 1 << bit;
            StringBuilder text = new StringBuilder(bit == 0 ? "a~2" : bit == 3 ? "a<8" : "");
            if (text.length() == 0) {
                text.append(bit == 1 ? "a~4" : "a~8");
            }
            Due.remark(x, bit, text.toString());
            DUE.is("17: " + text, x.fit(low, 100), bit == 0 ? 8 : bit == 1 ? 4 : bit == 2 ? 2 : 8);
        }
        DUE.is("17: two", x.fewest(0, 0), 2);
        DUE.is("17: which two", x.fewest(0, 1), 12);
        UncleAges y = Due.people(0, 1, 0, 1, 0, 1, 0, 1);
        for (int k = 0; k < 4; k++) {
            Due.remark(y, 9 - k, (char) ('a' + k) + "=1");
        }
        DUE.is("17: not by 3", y.fewest(0, 0), -2);
        DUE.is("17: not by 3, which", y.fewest(0, 1), -2);
        DUE.is("17: by 3", y.fewest(64, 0), 3);
        DUE.is("17: by these 3", y.fewest(64, 1), 512 + 256 + 128);
        DUE.is("17: by 0", y.fewest(960, 0), 0);
        DUE.is("17: by 0, which", y.fewest(960, 1), 0);
    }

    private static void offByAYear() {
        UncleAges x = Due.people(5, 5);
        String[] texts = {"a=5", "a=6", "a=4", "a=7", "a=3", "a<5", "a>5", "a~6", "2*a=11", "2*a=12"};
        int[] off = {0, 2, 4, -2, -2, -2, -2, -2, 256, -2};
        for (int k = 0; k < 10; k++) {
            Due.remark(x, k, texts[k]);
            DUE.is("18: " + texts[k], x.offByAYear(1 << k, 1), off[k]);
            DUE.is("18: how many, " + texts[k], x.offByAYear(1 << k, 0), off[k] > 0 ? 1 : off[k]);
        }
        DUE.is("18: two that must be", x.offByAYear(7, 1), 6);
        DUE.is("18: how many", x.offByAYear(7, 0), 2);
        x.person(0, 4, 6);
        DUE.is("18: the fewest", x.offByAYear(3, 0), 1);
        DUE.is("18: the least bits", x.offByAYear(3, 1), 1);
        DUE.is("18: all others holding", x.offByAYear(3 | 64, 1), 1);
        DUE.is("18: all others holding, the other way", x.offByAYear(1 | 4 | 32, 1), 1);
        DUE.is("18: no ROW", x.offByAYear(32 | 64, 1), -2);
    }

    private static void knownAndSayings() {
        UncleAges x = Due.people(0, 9);
        Due.form(x, 0, "1");
        Due.form(x, 1, "a");
        DUE.is("19: none of ten", x.known(0, 0), 0);
        DUE.is("19: all of ten", x.known(0, 1), 10);
        Due.remark(x, 0, "a=7");
        DUE.is("19: one ROW alone is known", x.known(1, 0), 1);
        Due.remark(x, 0, "a=10");
        DUE.is("19: none FITS", x.known(1, 0), 0);
        DUE.is("20: none FITS", Due.sayings(x, 1, "A+", 100), 0);
        DUE.is("20: none FITS, a", Due.sayings(x, 1, "A+", 0), -2);
        Due.text(x, "A-A-A-A-A-A-A-A-A-A-A-");
        DUE.is("20: 21 bytes", x.sayings(0, 21, 100), -1);
        DUE.is("20: 20 bytes", x.sayings(0, 20, 100), 10);
        String[] texts = {"A", "B", "A-B", "A,", "A/", "A*", "A:", "-", "AB", "A--", "A+A", "A+,+"};
        int[] due = {-1001, -1001, -1003, -1001, -1001, -1001, -1001, -1000, -1001, -1002, -1003, -1002};
        for (int i = 0; i < texts.length; i++) {
            DUE.is("20: " + texts[i], Due.sayings(x, 0, texts[i], 100), due[i]);
        }
        DUE.is("20: a FORM that is not told, ahead of what can't stand behind it", Due.sayings(x, 0, "C?", 100), -7000);
        DUE.is("20: one that is not told, at the end", Due.sayings(x, 0, "A-C", 100), -7002);
    }

    /** -99 to 99 from THE YEAR on. */
    private static void isTrue() {
        UncleAges x = Due.people(10, 10);
        x.years(5);
        int[] ages = {-84, -85, 15, 14, 16, 114, 115};
        int[][] due = {{1, -99, -200}, {0, -200, -200}, {1, 0, -200}, {1, -1, -200}, {1, -200, 1}, {1, -200, 99}, {0, -200, -200}};
        for (int i = 0; i < ages.length; i++) {
            Due.remark(x, 9, ages[i] < 0 ? "a+" + -ages[i] + "=0" : "a=" + ages[i]);
            for (int what = 0; what < 3; what++) {
                DUE.is("21: " + ages[i] + ", what " + what, x.isTrue(0, 9, what), due[i][what]);
            }
        }
        Due.remark(x, 9, "0=0");
        DUE.is("21: in 199 YEARS", x.isTrue(0, 9, 0), 199);
        DUE.is("21: now, too", x.isTrue(0, 9, 1), 0);
        DUE.is("21: behind now", x.isTrue(0, 9, 2), 1);
        Due.remark(x, 9, "a>15");
        DUE.is("21: not now", x.isTrue(0, 9, 0), 99);
        DUE.is("21: not ahead of now", x.isTrue(0, 9, 1), -200);
        Due.remark(x, 9, "a<15");
        DUE.is("21: ahead of now", x.isTrue(0, 9, 0), 99);
        DUE.is("21: last", x.isTrue(0, 9, 1), -1);
        DUE.is("21: no more", x.isTrue(0, 9, 2), -200);
        DUE.is("21: no ROW FITS", x.isTrue(512, 9, 0), -201);
    }

    private static void together() {
        UncleAges x = Due.people(99, 99, 0, 0, 0, 0, 0, 0, 0, 0, 0, 0);
        DUE.is("22: 99 and 0 + 0", x.together(0, 0, 6), 99);
        DUE.is("22: 99 and 0 + 0 + 0: never in whole YEARS", x.together(0, 0, 14), -1000);
        DUE.is("22: 99 and four 0", x.together(0, 0, 30), 33);
        DUE.is("22: 0 and 99 + 0", x.together(0, 1, 5), -99);
        DUE.is("22: 0 and 0 + 0", x.together(0, 1, 12), 0);
        DUE.is("22: 0 and 99 and four 0: never", x.together(0, 1, 61), -1000);
        DUE.is("22: one alone", x.together(0, 0, 2), -4000);
        x.person(0, 97, 97);
        DUE.is("22: 97 ago, by four: never", x.together(0, 1, 61), -1000);
        x.person(0, 96, 96);
        DUE.is("22: 96 ago, by four", x.together(0, 1, 61), -24);
    }

    private static void turned() {
        int[][] ages = {{99, 9}, {9, 99}, {90, 9}, {10, 1}, {1, 10}, {98, 89}, {89, 98}, {99, 99}, {88, 88}, {0, 0}, {0, 9}, {0, 90}};
        int[][] due = {{0, -2}, {0, -2}, {0, -2}, {8, 11}, {8, 11}, {1, 0}, {1, 0}, {1, 0}, {2, 0}, {9, 11}, {8, 12}, {0, -2}};
        for (int i = 0; i < ages.length; i++) {
            UncleAges x = Due.people(ages[i][0], ages[i][0], ages[i][1], ages[i][1]);
            for (int what = 0; what < 2; what++) {
                DUE.is("23: " + ages[i][0] + " and " + ages[i][1] + ", what " + what, x.turned(0, 0, 1, what), due[i][what]);
            }
        }
        UncleAges x = Due.people(0, 0, 0, 0);
        x.years(99);
        DUE.is("23: 99 alone is left", x.turned(0, 0, 1, 0), 1);
        DUE.is("23: now", x.turned(0, 0, 1, 1), 0);
    }

    private static void squares() {
        UncleAges x = Due.people(22, 22, 45, 45);
        DUE.is("24: 121 and 144 in 99 YEARS", x.squares(0, 99), 2);
        DUE.is("24: most in 99 YEARS", x.squares(0, 100), 99);
        x.person(0, 21, 21);
        x.person(1, 44, 44);
        DUE.is("24: 120 and 143 in 99 YEARS", x.squares(0, 99), 0);
        DUE.is("24: not in 100 YEARS: 25 in 4", x.squares(0, 100), 4);
        x.person(0, 0, 0);
        x.person(1, 1, 1);
        DUE.is("24: 0 and 1", x.squares(0, 0), 2);
        x.person(0, 99, 99);
        x.person(1, 98, 98);
        x.years(99);
        DUE.is("24: 198 and 197", x.squares(0, 0), 0);
        DUE.is("24: 289 in 91 YEARS", x.squares(0, 91), 1);
        DUE.is("24: 297 and 296", x.squares(0, 99), 0);
    }

    private static void when() {
        UncleAges x = Due.people(0, 0, 99, 99);
        DUE.is("25: 0", x.when(0, 0, 1, 0), -99);
        DUE.is("25: 199", x.when(0, 1, 0, 199), 298);
        DUE.is("25: -1", x.when(0, 1, 0, -1), -4000);
        DUE.is("25: 200", x.when(0, 1, 0, 200), -4000);
        Due.remark(x, 0, "a>0");
        DUE.is("25: no ROW FITS", x.when(1, 1, 0, 0), -1000);
    }

    private static void whoIsWho() {
        UncleAges x = Due.people(0, 0, 0, 0, 0, 0, 0, 0, 0, 0, 0, 0);
        Due.remark(x, 0, "c=1");
        Due.remark(x, 9, "c+1-c=1");
        Due.remark(x, 1, "a<b");
        Due.remark(x, 8, "1=2");
        int[] remarks = {1, 512, 2, 256, 0};
        int[] due = {-3, -3, 1, 0, 2};
        for (int i = 0; i < remarks.length; i++) {
            Due.bytes(x, 99, 0);
            DUE.is("26: REMARKS " + remarks[i], x.whoIsWho(2, 3, remarks[i], 100), due[i]);
            Due.bytes(x, 99, 0);
            DUE.is("26: a, REMARKS " + remarks[i], x.whoIsWho(2, 3, remarks[i], 0),
                    due[i] == 0 ? -2 : due[i] == -3 ? -3 : remarks[i] == 2 ? 1 : 0);
        }
        int[][] ages = {{99, 99}, {100, 0}, {0, 100}, {255, 0}, {0, 128}};
        for (int i = 0; i < ages.length; i++) {
            Due.bytes(x, ages[i]);
            DUE.is("26: " + ages[i][0] + " and " + ages[i][1], x.whoIsWho(2, 3, 0, 100), i == 0 ? 2 : -3);
        }
        for (int n = 1; n <= 7; n++) {
            Due.bytes(x, 1, 2, 3, 4, 5, 6, 200);
            int ways = new int[] {-1, 2, 6, 24, 120, 720, -1}[n - 1];
            DUE.is("26: " + n, x.whoIsWho(n, (1 << n) - 1, 0, 100), ways);
        }
        x.form(0, 1);
        // 5 4 3 2 1 0, each one older than the one ahead: only turned round.
        String[] texts = {"a<b", "b<c", "c<d", "d<e", "e<f"};
        for (int k = 0; k < 5; k++) {
            Due.remark(x, k, texts[k]);
        }
        for (int p = 0; p < 6; p++) {
            Due.bytes(x, 5, 4, 3, 2, 1, 0);
            DUE.is("26: the last way of 720, " + p, x.whoIsWho(6, 63, 31, p), 5 - p);
        }
    }

    /** Both one ROW at least; of like ones the lowest. */
    private static void asks() {
        UncleAges x = Due.people(0, 9);
        String[] texts = {"a<0", "a=9", "a>9", "a=1"};
        for (int k = 0; k < texts.length; k++) {
            Due.remark(x, 3 + k, texts[k]);
        }
        DUE.is("27: nearest to 5 of 0 1 0 1", x.asks(0, 0), 4);
        DUE.is("27: kindest of one ROW", x.asks(0, 1), 4);
        DUE.is("27: sharpest of one ROW", x.asks(0, 2), 4);
        DUE.is("27: beside a=9", x.asks(16, 0), 3);
        DUE.is("27: kindest beside a=9: none", x.asks(16, 1), -2);
        DUE.is("27: sharpest beside a=9: none", x.asks(16, 2), -2);
        for (int what = 0; what < 3; what++) {
            DUE.is("27: no ROW FITS", x.asks(8, what), -2);
            DUE.is("27: none is left to ask", x.asks(120, what), -2);
        }
        Due.remark(x, 0, "a<3");
        Due.remark(x, 1, "a<7");
        DUE.is("27: 3 is as near as 7", x.asks(0, 0), 0);
        Due.remark(x, 0, "a<7");
        Due.remark(x, 1, "a<3");
        DUE.is("27: 7 is as near as 3", x.asks(0, 0), 0);
        x.person(0, 0, 2);
        Due.remark(x, 1, "a<1");
        DUE.is("27: the half of three: 3 is less near than 1", x.asks(0, 0), 1);
        DUE.is("27: all of them is kindest", x.asks(0, 1), 0);
        Due.remark(x, 0, "a<2");
        DUE.is("27: the half of three: 2 is as near as 1", x.asks(0, 0), 0);
        Due.remark(x, 0, "a<1");
        Due.remark(x, 1, "a<2");
        DUE.is("27: the half of three: 1 is as near as 2", x.asks(0, 0), 0);
    }

    private static void shortestIs(UncleAges x, int remarks, int... due) {
        for (int what = 0; what < 5; what++) {
            DUE.is("29: what " + what, x.shortest(remarks, what), due[due.length == 1 ? 0 : what]);
        }
    }

    /** a=36, a=b+9 (9 from 1 on), a=2*b (2 from 2 to 99 on, b not 0). */
    private static void shortestNumbers() {
        UncleAges x = Due.people(6, 7, 5, 6);
        Due.remark(x, 0, "a+b<13");
        shortestIs(x, 1, 5, 1, 0, 1, 1);
        x = Due.people(5, 6, 5, 6);
        Due.remark(x, 0, "a+b<12");
        shortestIs(x, 1, -2);
        x = Due.people(0, 0, 0, 1);
        shortestIs(x, 0, 3, 0, 1, -2, 0);
        x = Due.people(0, 1, 0, 1);
        Due.remark(x, 0, "a+b<2");
        shortestIs(x, 1, -2);
        // 2 and 1, 3 and 1, 2 and 2: twice is enough, and so is one more.
        x = Due.people(2, 3, 1, 2);
        Due.remark(x, 0, "a+b<5");
        shortestIs(x, 1, 5, 1, 0, 1, 1);
        Due.remark(x, 1, "a+b<6");
        shortestIs(x, 2, 5, 2, 0, 1, 2);
        x = Due.people(99, 99, 1, 2, 0, 0);
        shortestIs(x, 0, 3, 0, 1, -2, 1);
        x = Due.people(98, 99, 1, 2);
        Due.remark(x, 0, "a-b>96");
        // 98 and 1, 99 and 1, 99 and 2: b=1 stands twice, a=98 once.
        shortestIs(x, 1, 4, 0, 0, -2, 98);
        ninetyNineTimes();
        UncleAges nobody = new UncleAges();
        shortestIs(nobody, 0, -2);
        Due.remark(nobody, 0, "1=2");
        shortestIs(nobody, 1, -2);
    }

    private static void ninetyNineTimes() {
        // In YEAR 0 98 and 1, 98 and 2, 99 and 1, the other one dead from then on: 97 more goes ahead of 98 times.
        UncleAges x = Due.people(98, 99, 1, 2);
        x.dies(1, 0);
        Due.remark(x, 0, "a+b<101");
        shortestIs(x, 1, 6, 1, 0, 1, 97);
        x.years(2);
        shortestIs(x, 1, 6, 1, 0, 1, 99);
        x.years(1);
        shortestIs(x, 1, 7, 1, 0, 1, 100);
        // With 99 and 2 as well so many more stands twice, so many times once.
        x = Due.people(98, 99, 1, 2);
        x.dies(1, 0);
        x.years(1);
        shortestIs(x, 0, 6, 2, 0, 1, 99);
        x.years(1);
        shortestIs(x, 0, -2);
    }

    /** Of like ones the first sort, the lowest first letter, the lowest second one. */
    private static void shortestOfLikeOnes() {
        shortestIs(Due.people(5, 5, 7, 7), 0, 3, 0, 0, -2, 5);
        shortestIs(Due.people(15, 15, 7, 7), 0, 3, 0, 1, -2, 7);
        UncleAges x = Due.people(4, 5, 4, 5, 2, 3);
        // 4 4 2, 4 5 2, 5 4 2, 4 4 3: a+b is 8 in the first and the last one.
        Due.remark(x, 0, "a+b+c<12");
        Due.remark(x, 1, "a+b=8");
        shortestIs(x, 3, 3, 0, 2, -2, 2);
        // 9 3 3, 9 4 3, 9 3 4, 10 3 3: neither sort nor letters tell the first one.
        x = Due.people(9, 10, 3, 4, 3, 4);
        Due.remark(x, 0, "a+b+c<17");
        shortestIs(x, 1, -2);
        // 20 2 2, 21 2 2, 20 2 3, 20 3 2 without the third one: c=2 stands twice, a=c+18 once.
        x = Due.people(20, 21, 2, 2, 2, 3);
        Due.remark(x, 0, "a+c<24");
        shortestIs(x, 1, 6, 1, 0, 2, 18);
        // 20 2 and 21 2 and 20 3, b of the first letter that is older.
        x = Due.people(2, 3, 20, 21);
        Due.remark(x, 0, "a+b<24");
        shortestIs(x, 1, 6, 1, 1, 0, 18);
    }

    private static void often() {
        UncleAges x = Due.people(0, 3);
        Due.form(x, 0, "7");
        Due.form(x, 1, "0-a");
        Due.remark(x, 0, "a>3");
        int[] due = {1, 4, 7};
        int[] other = {4, 1, -3};
        int[] none = {0, 0, -2};
        for (int what = 0; what < 3; what++) {
            DUE.is("30: 7 four times, what " + what, x.often(0, 0, what), due[what]);
            DUE.is("30: 0 to -3, what " + what, x.often(0, 1, what), other[what]);
            DUE.is("30: none FITS, what " + what, x.often(1, 0, what), none[what]);
        }
    }

    private static void middleAndApart() {
        int[] due = {0, 0, 1, 1, 2, 2};
        for (int high = 0; high < 6; high++) {
            DUE.is("31: of " + (high + 1), Due.people(0, high).middle(0, 0), due[high]);
        }
        UncleAges x = Due.people(0, 99, 0, 99);
        DUE.is("32: at least", x.apart(0, 0, 1, 0), -99);
        DUE.is("32: at most", x.apart(0, 0, 1, 1), 99);
        DUE.is("32: of one AGE", x.apart(0, 0, 1, 2), 100);
        Due.remark(x, 0, "a=b+200");
        DUE.is("31: none FITS", x.middle(1, 0), -2);
        DUE.is("32: none FITS", x.apart(1, 0, 1, 0), -200);
        DUE.is("32: none FITS, at most", x.apart(1, 0, 1, 1), -200);
        DUE.is("32: none FITS, of one AGE", x.apart(1, 0, 1, 2), 0);
    }

    private static void tree() {
        UncleAges x = Due.people(0, 99, 0, 99);
        x.parent(0, 1, 99);
        DUE.is("34: least of a parent by 99", x.tree(0, 0), 99);
        DUE.is("34: greatest of a child by 99", x.tree(1, 1), 0);
        x.person(1, 1, 99);
        DUE.is("34: it can't be", x.tree(0, 0), -2);
        DUE.is("34: nor for the child", x.tree(1, 1), -2);
        x.parent(0, 1, 98);
        DUE.is("34: it can be, just so", x.tree(1, 1), 1);
        x.parent(1, 0, 0);
        DUE.is("34: one's own grandparent", x.tree(1, 1), -2);
        x.parent(0, 1, 0);
        DUE.is("34: by 0, both ways", x.tree(0, 0), 1);
        x.parent(0, 1, -1);
        DUE.is("34: is not", x.tree(0, 1), 99);
        x.parent(1, 0, -1);
        DUE.is("34: are not", x.tree(0, 0), 0);
        UncleAges chain = Due.people(0, 99, 0, 99, 0, 99, 0, 99, 0, 99, 0, 99);
        int[] order = {5, 0, 4, 1, 3, 2};
        for (int i = 0; i < 5; i++) {
            chain.parent(order[i], order[i + 1], i == 0 ? 19 : 20);
        }
        for (int i = 0; i < 6; i++) {
            DUE.is("34: least of the chain, " + i, chain.tree(order[i], 0), i == 0 ? 99 : 100 - 20 * i);
            DUE.is("34: greatest of the chain, " + i, chain.tree(order[i], 1), i == 0 ? 99 : 100 - 20 * i);
        }
        chain.parent(5, 0, 20);
        DUE.is("34: by one too many", chain.tree(2, 0), -2);
        chain.parent(5, 0, -1);
        chain.parent(2, 5, 1);
        DUE.is("34: the chain by its other end", chain.tree(0, 0), 81);
        forefathers();
    }

    /** By one YEAR over any number of them one can't be one's own forefather; by 0 all are of one AGE. */
    private static void forefathers() {
        for (int many = 2; many <= 6; many++) {
            UncleAges x = Due.people(0, 99, 0, 99, 0, 99, 0, 99, 0, 99, 0, 99);
            for (int p = 0; p < many; p++) {
                x.parent(p, (p + 1) % many, 0);
            }
            x.person(many - 1, 40, 60);
            DUE.is("34: least of " + many + " by 0", x.tree(0, 0), 40);
            DUE.is("34: greatest of " + many + " by 0", x.tree(0, 1), 60);
            x.parent(many - 1, 0, 1);
            DUE.is("34: " + many + " by 1", x.tree(0, 0), -2);
            DUE.is("34: " + many + " by 1, greatest", x.tree(0, 1), -2);
            x.parent(many - 1, 0, -1);
            DUE.is("34: " + many + " in a row", x.tree(0, 0), 40);
        }
    }

    private static int tyresOf(UncleAges x, int needed, int... miles) {
        Due.bytes(x, miles);
        return x.tyres(miles.length, needed);
    }

    private static void tyres() {
        UncleAges x = new UncleAges();
        DUE.is("35: one of 1", tyresOf(x, 1, 1), 1);
        DUE.is("35: one of 255", tyresOf(x, 1, 255), 255);
        DUE.is("35: eight of 255", tyresOf(x, 1, 255, 255, 255, 255, 255, 255, 255, 255), 2040);
        DUE.is("35: eight of 255, eight at once", tyresOf(x, 8, 255, 255, 255, 255, 255, 255, 255, 255), 255);
        DUE.is("35: eight of 255, seven at once", tyresOf(x, 7, 255, 255, 255, 255, 255, 255, 255, 255), 291);
        DUE.is("35: eight of 1, seven at once", tyresOf(x, 7, 1, 1, 1, 1, 1, 1, 1, 1), 1);
        DUE.is("35: as many as are needed: the worst", tyresOf(x, 3, 9, 1, 9), 1);
        DUE.is("35: one is on all the way", tyresOf(x, 2, 1, 2, 255), 3);
        DUE.is("35: whole miles", tyresOf(x, 2, 3, 3, 3), 4);
        DUE.is("35: one fewer than are needed", tyresOf(x, 3, 9, 9), -3);
        DUE.is("35: 0 miles", tyresOf(x, 1, 0), -2);
        DUE.is("35: 0 miles of the last one", tyresOf(x, 1, 9, 9, 9, 9, 9, 9, 9, 0), -2);
        DUE.is("35: 0 miles, and too few", tyresOf(x, 8, 9, 0), -2);
        Due.bytes(x, 9, 9, 0);
        DUE.is("35: 0 behind those that are asked", x.tyres(2, 2), 9);
        DUE.is("35: empty then", x.count(4), 0);
    }

    private static int buttsOf(UncleAges x, int much, int... six) {
        Due.bytes(x, six);
        return x.butts(much);
    }

    private static void butts() {
        UncleAges x = new UncleAges();
        DUE.is("36: 20 13 7", buttsOf(x, 10, 20, 13, 7, 20, 0, 0), 18);
        DUE.is("36: none can be poured after that", buttsOf(x, 7, 1, 1, 1, 1, 1, 1), -2);
        DUE.is("36: 20 13 7, the others full", buttsOf(x, 10, 20, 13, 7, 0, 13, 7), 18);
        DUE.is("36: 3 5 8, all in the last one", buttsOf(x, 4, 3, 5, 8, 0, 0, 8), 6);
        DUE.is("36: 20 20 20", buttsOf(x, 10, 20, 20, 20, 0, 0, 20), -2);
        DUE.is("36: 20 20 1", buttsOf(x, 10, 20, 20, 1, 20, 0, 0), 19);
        DUE.is("36: 1 20 20", buttsOf(x, 10, 1, 20, 20, 0, 0, 20), 19);
        DUE.is("36: 19 20 20", buttsOf(x, 10, 19, 20, 20, 0, 0, 20), -2);
        DUE.is("36: 20 11 8", buttsOf(x, 10, 20, 11, 8, 20, 0, 0), 11);
        DUE.is("36: all of size 0", buttsOf(x, 0, 0, 0, 0, 0, 0, 0), 0);
        DUE.is("36: 20 at once", buttsOf(x, 20, 20, 1, 20, 0, 1, 20), 0);
        DUE.is("36: 0 at once", buttsOf(x, 0, 20, 3, 2, 19, 0, 0), 0);
        int[] size = {8, 5, 3};
        for (int i = 0; i < 3; i++) {
            int[] six = {8, 5, 3, 0, 0, 0};
            six[i] = 20;
            six[3 + i] = 20;
            DUE.is("36: of size 20, full, " + i, buttsOf(x, 20, six), 0);
            six[i] = 21;
            DUE.is("36: of size 21, " + i, buttsOf(x, 20, six), -3);
            six[i] = size[i];
            six[3 + i] = size[i];
            DUE.is("36: full, " + i, buttsOf(x, size[i], six), 0);
            six[3 + i] = size[i] + 1;
            DUE.is("36: fuller, " + i, buttsOf(x, size[i], six), -3);
        }
    }

    private static void howOld() {
        UncleAges x = new UncleAges();
        DUE.is("41: six come to 400", x.howOld(6, 400, 0, 99), 3368809L);
        DUE.is("41: six come to 400, to 98", x.howOld(6, 400, 0, 98), 2966683L);
        DUE.is("41: six come to 400, 1 on", x.howOld(6, 400, 1, 99), 3330584L);
        DUE.is("41: five come to 400", x.howOld(5, 400, 0, 99), 38225L);
        DUE.is("41: six come to 1", x.howOld(6, 1, 0, 99), 1);
        DUE.is("41: one of 0", x.howOld(1, 0, 0, 0), 1);
        DUE.is("41: one of 99", x.howOld(1, 99, 99, 99), 1);
        DUE.is("41: one of 98", x.howOld(1, 98, 99, 99), 0);
        DUE.is("41: one of 100", x.howOld(1, 100, 0, 99), 0);
        DUE.is("41: three of one AGE", x.howOld(3, 150, 50, 50), 1);
        DUE.is("41: three of one AGE, one beside it", x.howOld(3, 151, 50, 50), 0);
        DUE.is("41: two come to 3: 3 0, 2 1", x.howOld(2, 3, 0, 99), 2);
        DUE.is("41: two come to 4: 4 0, 3 1, 2 2", x.howOld(2, 4, 0, 99), 3);
    }

    private static void check() {
        UncleAges x = new UncleAges();
        x.person(1, 7, 8);
        DUE.is("44: of no byte", x.check(0), -1);
        int[][] bytes = {{0, 7, 0, 0, 0, 0}, {0, 7, 0, 0, 0, 1}, {1, 7, 0, 0, 0, 0}, {0, 8, 0, 0, 0, 0}, {0, 255, 9, 9, 9, 9}, {0, 7, 1, 1, 1, 1}};
        int[] due = {-1, 5, 0, 1, 1, 2};
        for (int i = 0; i < bytes.length; i++) {
            for (int n = 0; n <= 6; n++) {
                Due.bytes(x, bytes[i]);
                DUE.is("44: " + n + " of " + i, x.check(n), due[i] < n ? due[i] : -1);
                DUE.is("44: empty then", x.count(4), 0);
            }
        }
    }

    private static void count() {
        UncleAges x = Due.people(1, 11, 2, 12, 3, 13, 4, 14, 5, 15, 6, 16);
        for (int p = 0; p < 6; p++) {
            DUE.is("45: LOW of " + p, x.count(10 + p), 1 + p);
            DUE.is("45: HIGH of " + p, x.count(20 + p), 11 + p);
            DUE.is("45: lives " + p, x.count(30 + p), -2);
            DUE.is("3: lives, and does", x.dies(p, 100), true);
            DUE.is("45: lives still " + p, x.count(30 + p), -2);
            x.dies(p, 0);
            DUE.is("45: dead from 0 on " + p, x.count(30 + p), 0);
            x.dies(p, 99);
            DUE.is("45: dead from 99 on " + p, x.count(30 + p), 99);
        }
        for (int what = -100; what < 200; what++) {
            boolean isAny = what >= 0 && what < 5 || what >= 10 && what < 40 && what % 10 < 6;
            DUE.is("45: " + what, x.count(what) == -1, !isAny);
        }
    }
}
