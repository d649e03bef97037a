/** Promises 21 to 26, 34 to 36, 39, 41, 44: what is asked of THE ROW, and what stands by itself. */
public final class RowTest {
    private static final Due DUE = new Due("row");

    public static void main(String[] args) {
        isTrue();
        isTrueOfTheDead();
        together();
        turned();
        squares();
        when();
        whoIsWho();
        whoIsWhoRefused();
        tree();
        tyres();
        butts();
        worth();
        howOld();
        check();
        order();
        DUE.end();
    }

    /** People of one age each. */
    private static UncleAges people(int... ages) {
        UncleAges x = new UncleAges();
        for (int p = 0; p < ages.length; p++) {
            x.person(p, ages[p], ages[p]);
        }
        return x;
    }

    private static void trueIs(UncleAges x, String text, int many, int last, int next) {
        Due.remark(x, 0, text);
        DUE.is("21: " + text + ", YEARS", x.isTrue(0, 0, 0), many);
        DUE.is("21: " + text + ", last", x.isTrue(0, 0, 1), last);
        DUE.is("21: " + text + ", next", x.isTrue(0, 0, 2), next);
    }

    private static void isTrue() {
        UncleAges x = people(20, 30);
        x.years(10);
        trueIs(x, "a=35", 1, -200, 5);
        trueIs(x, "a=30", 1, 0, -200);
        trueIs(x, "b=2*a", 1, -20, -200);
        trueIs(x, "a<b", 199, 0, 1);
        trueIs(x, "a>b", 0, -200, -200);
        // a is -69 to 129 by then.
        trueIs(x, "a~10", 19, 0, 10);
        trueIs(x, "a~7", 28, -2, 5);
        trueIs(x, "a+69=0", 1, -99, -200);
        trueIs(x, "a+70=0", 0, -200, -200);
        trueIs(x, "a=129", 1, -200, 99);
        trueIs(x, "a=130", 0, -200, -200);
        trueIs(x, "1=1", 199, 0, 1);
        trueIs(x, "b@(a:b)=60", 1, -200, 10);
        DUE.is("21: what 3", x.isTrue(0, 0, 3), -204);
        DUE.is("21: what -1", x.isTrue(0, 0, -1), -204);
        DUE.is("21: REMARK not told", x.isTrue(0, 1, 0), -204);
        DUE.is("21: -1", x.isTrue(0, -1, 0), -204);
        DUE.is("21: a FORM is no REMARK", x.isTrue(0, 10, 0), -204);
        DUE.is("21: some not told", x.isTrue(2, 0, 0), -204);
        Due.remark(x, 1, "a=31");
        DUE.is("21: no ROW FITS", x.isTrue(2, 0, 0), -201);
    }

    private static void isTrueOfTheDead() {
        UncleAges x = people(20, 30);
        x.dies(0, 0);
        x.years(10);
        trueIs(x, "a=30", 1, 0, -200);
        trueIs(x, "a=b-10", 199, 0, 1);
        // Said now, it is b - a = 20 in YEAR 0: the dead one's years since are not in it.
        DUE.is("21: but it doesn't hold as it was said", x.fit(1, 100), 0);
        Due.remark(x, 1, "a=20");
        DUE.is("21: nor does it hold now what does by the dead", x.isTrue(2, 1, 1), -10);
        UncleAges y = new UncleAges();
        y.person(0, 10, 20);
        Due.remark(y, 0, "a>14");
        Due.remark(y, 1, "a=16");
        DUE.is("21: the first ROW that FITS", y.isTrue(1, 1, 2), 1);
    }

    private static void together() {
        UncleAges x = people(70, 10, 20, 10, 40, 40);
        DUE.is("22: 70 and 10 + 20", x.together(0, 0, 6), 40);
        DUE.is("22: 70 and 10 + 20 + 10", x.together(0, 0, 14), 15);
        DUE.is("22: 10 and 20 + 10: ago", x.together(0, 1, 12), -20);
        DUE.is("22: 10 and 70 + 20 + 10 + 40 + 40", x.together(0, 1, 61), -1000);
        x.person(0, 60, 60);
        DUE.is("22: 10 and 170, by five", x.together(0, 1, 61), -40);
        x.person(3, 11, 11);
        DUE.is("22: never in whole YEARS", x.together(0, 0, 14), -1000 + 0);
        x.person(3, 9, 9);
        DUE.is("22: 60 and 39 by three: never", x.together(0, 0, 14), -1000);
        DUE.is("22: 60 and 30", x.together(0, 0, 6), 30);
        x.years(5);
        DUE.is("22: from THE YEAR on", x.together(0, 0, 6), 25);
        x.dies(0, 1);
        DUE.is("22: as if they lived", x.together(0, 0, 6), 25);
        DUE.is("22: one alone", x.together(0, 0, 2), -4000);
        DUE.is("22: nobody", x.together(0, 0, 0), -4000);
        DUE.is("22: that one, too", x.together(0, 0, 7), -4000);
        DUE.is("22: others not told", x.together(0, 0, 70), -4000);
        DUE.is("22: all bits", x.together(0, 0, -2), -4000);
        DUE.is("22: -1", x.together(0, -1, 6), -4000);
        DUE.is("22: 6", x.together(0, 6, 6), -4000);
        DUE.is("22: REMARK not told", x.together(1, 0, 6), -4000);
        Due.remark(x, 0, "1=2");
        DUE.is("22: no ROW FITS", x.together(1, 0, 6), -2000);
        UncleAges y = people(1, 1, 1);
        DUE.is("22: one not told", y.together(0, 3, 6), -4000);
    }

    private static void turned() {
        turnedIs(people(31, 13), 7, 0);
        turnedIs(people(13, 31), 7, 0);
        turnedIs(people(2, 20), 7, 11);
        turnedIs(people(20, 2), 7, 11);
        turnedIs(people(5, 5), 9, 6);
        turnedIs(people(99, 99), 1, 0);
        turnedIs(people(0, 0), 9, 11);
        turnedIs(people(30, 20), 0, -2);
        turnedIs(people(10, 91), 0, -2);
        turnedIs(people(9, 90), 0, -2);
        turnedIs(people(19, 91), 1, 0);
        UncleAges x = people(31, 13);
        x.years(11);
        turnedIs(x, 6, 0);
        x.dies(0, 0);
        x.years(1);
        turnedIs(x, 5, 10);
        x.years(60);
        turnedIs(x, 0, -2);
        Due.remark(x, 0, "1=2");
        DUE.is("23: no ROW FITS", x.turned(1, 0, 1, 0), -2);
        DUE.is("23: the same one", x.turned(0, 1, 1, 0), -1);
        DUE.is("23: one not told", x.turned(0, 0, 2, 0), -1);
        DUE.is("23: -1", x.turned(0, -1, 0, 0), -1);
        DUE.is("23: what 2", x.turned(0, 0, 1, 2), -1);
        DUE.is("23: what -1", x.turned(0, 0, 1, -1), -1);
        DUE.is("23: REMARK not told", x.turned(2, 0, 1, 0), -1);
    }

    private static void turnedIs(UncleAges x, int many, int next) {
        DUE.is("23: YEARS", x.turned(0, 0, 1, 0), many);
        DUE.is("23: the next one", x.turned(0, 0, 1, 1), next);
    }

    private static void squares() {
        UncleAges x = people(0, 1, 3);
        DUE.is("24: 0 1 3", x.squares(0, 0), 2);
        DUE.is("24: 1 2 4", x.squares(0, 1), 2);
        DUE.is("24: 2 3 5", x.squares(0, 2), 0);
        DUE.is("24: most, the first", x.squares(0, 100), 0);
        UncleAges y = people(5, 12);
        DUE.is("24: 5 12", y.squares(0, 0), 0);
        DUE.is("24: 9 16", y.squares(0, 4), 2);
        DUE.is("24: in 4 YEARS", y.squares(0, 100), 4);
        DUE.is("24: 104 111", y.squares(0, 99), 0);
        DUE.is("24: 100 107", y.squares(0, 95), 1);
        y.dies(0, 0);
        y.years(3);
        DUE.is("24: from THE YEAR on, as if they lived", y.squares(0, 1), 2);
        DUE.is("24: in one YEAR", y.squares(0, 100), 1);
        y.years(96);
        // 104 and 111 now, 196 in 92 and 85 YEARS, 144 in 40 and 33, 121 in 17 and 10 ..
        DUE.is("24: the first of one each", y.squares(0, 100), 10);
        DUE.is("24: nobody", new UncleAges().squares(0, 0), 0);
        DUE.is("24: nobody, most", new UncleAges().squares(0, 100), 0);
        Due.remark(y, 0, "1=2");
        DUE.is("24: no ROW FITS", y.squares(1, 0), -2);
        DUE.is("24: what 101", y.squares(0, 101), -1);
        DUE.is("24: what -1", y.squares(0, -1), -1);
        DUE.is("24: REMARK not told", y.squares(2, 0), -1);
    }

    private static void when() {
        UncleAges x = people(40, 10);
        DUE.is("25: at the birth of b", x.when(0, 0, 1, 0), 30);
        DUE.is("25: below 0", x.when(0, 1, 0, 0), -30);
        DUE.is("25: 199", x.when(0, 0, 1, 199), 229);
        DUE.is("25: oneself", x.when(0, 1, 1, 7), 7);
        x.years(9);
        x.dies(0, 2);
        DUE.is("25: as if they lived", x.when(0, 0, 1, 19), 49);
        DUE.is("25: 200", x.when(0, 0, 1, 200), -4000);
        DUE.is("25: -1", x.when(0, 0, 1, -1), -4000);
        DUE.is("25: one not told", x.when(0, 2, 1, 1), -4000);
        DUE.is("25: other one not told", x.when(0, 0, 2, 1), -4000);
        DUE.is("25: REMARK not told", x.when(1, 0, 1, 1), -4000);
        Due.remark(x, 0, "1=2");
        DUE.is("25: no ROW FITS", x.when(1, 0, 1, 1), -1000);
    }

    private static int whoIs(UncleAges x, int people, int remarks, int what, int... ages) {
        Due.bytes(x, ages);
        return x.whoIsWho(ages.length, people, remarks, what);
    }

    private static void whoIsWho() {
        UncleAges x = people(1, 2, 3, 4, 5, 6);
        Due.remark(x, 0, "a=b");
        Due.remark(x, 1, "a=30");
        Due.remark(x, 2, "d>a");
        Due.remark(x, 3, "f-d=1");
        DUE.is("26: 30 5 30", whoIs(x, 7, 1, 100, 30, 5, 30), 2);
        DUE.is("26: a, the first 30", whoIs(x, 7, 1, 0, 30, 5, 30), 0);
        DUE.is("26: b, the other 30", whoIs(x, 7, 1, 1, 30, 5, 30), 2);
        DUE.is("26: c", whoIs(x, 7, 1, 2, 30, 5, 30), 1);
        DUE.is("26: no REMARK", whoIs(x, 7, 0, 100, 30, 5, 30), 6);
        DUE.is("26: six", whoIs(x, 63, 0, 100, 1, 1, 1, 1, 1, 1), 720);
        DUE.is("26: two that are not a and b", whoIs(x, 40, 8, 5, 8, 9), 1);
        DUE.is("26: the other of these", whoIs(x, 40, 8, 3, 8, 9), 0);
        DUE.is("26: no way", whoIs(x, 40, 8, 100, 7, 9), 0);
        DUE.is("26: no way, which", whoIs(x, 40, 8, 3, 7, 9), -2);
        DUE.is("26: by PEOPLE the least row", whoIs(x, 9, 4, 0, 9, 3), 1);
        DUE.is("26: 0 and 99", whoIs(x, 9, 4, 3, 0, 99), 1);
        DUE.is("26: an AGE above 99", whoIs(x, 9, 4, 3, 0, 100), -3);
        DUE.is("26: 255", whoIs(x, 9, 4, 100, 255, 1), -3);
        DUE.is("26: an AGE that isn't asked", whoIsOfMore(x), 1);
        DUE.is("26: somebody else", whoIs(x, 3, 4, 100, 1, 2), -3);
        DUE.is("26: empty then", x.count(4), 0);
        x.years(10);
        x.dies(0, 3);
        DUE.is("26: said now, of the dead as well", whoIs(x, 3, 2, 0, 9, 30), 1);
        x.years(1);
        Due.remark(x, 1, "a=30");
        DUE.is("26: said when dead", whoIs(x, 3, 2, 0, 9, 30), 1);
        for (int p = 0; p < 6; p++) {
            x.person(p, 0, 99);
        }
        DUE.is("26: ROWS don't matter", whoIs(x, 3, 2, 0, 9, 30), 1);
    }

    private static int whoIsOfMore(UncleAges x) {
        Due.bytes(x, 3, 9, 200, 200);
        return x.whoIsWho(2, 9, 4, 3);
    }

    private static void whoIsWhoRefused() {
        UncleAges x = people(1, 2, 3, 4, 5, 6);
        DUE.is("26: the tape is empty", x.whoIsWho(2, 3, 0, 100), -1);
        x.feed(0, 0, 0, 0, 0);
        DUE.is("26: one", x.whoIsWho(1, 1, 0, 100), -1);
        DUE.is("26: seven", x.whoIsWho(7, 63, 0, 100), -1);
        DUE.is("26: fewer PEOPLE", x.whoIsWho(3, 3, 0, 100), -1);
        DUE.is("26: more PEOPLE", x.whoIsWho(2, 7, 0, 100), -1);
        DUE.is("26: -1", x.whoIsWho(-1, -1, 0, 100), -1);
        DUE.is("26: PEOPLE 6 and 7", x.whoIsWho(2, 192, 0, 100), -1);
        DUE.is("26: REMARK not told", x.whoIsWho(2, 3, 1, 100), -1);
        DUE.is("26: one not of these", x.whoIsWho(2, 3, 0, 2), -1);
        DUE.is("26: what 6", x.whoIsWho(2, 3, 0, 6), -1);
        DUE.is("26: what -1", x.whoIsWho(2, 3, 0, -1), -1);
        DUE.is("26: what 101", x.whoIsWho(2, 3, 0, 101), -1);
        DUE.is("26: the tape stays", x.count(4), 20);
        DUE.is("26: two of like AGE", x.whoIsWho(2, 3, 0, 100), 2);
        UncleAges y = people(1, 2);
        y.feed(0, 0, 0, 0, 0);
        DUE.is("26: one not told", y.whoIsWho(2, 5, 0, 100), -1);
    }

    private static void tree() {
        UncleAges x = new UncleAges();
        for (int p = 0; p < 4; p++) {
            x.person(p, 10 * p, 60);
        }
        DUE.is("34: no parents, least", x.tree(2, 0), 20);
        DUE.is("34: no parents, greatest", x.tree(2, 1), 60);
        // a is b's parent, b is c's: c 20 on, so b 35 on, a 60 on.
        x.parent(0, 1, 25);
        x.parent(1, 2, 15);
        int[] low = {60, 35, 20, 30};
        int[] high = {60, 35, 20, 60};
        for (int p = 0; p < 4; p++) {
            DUE.is("34: least of " + p, x.tree(p, 0), low[p]);
            DUE.is("34: greatest of " + p, x.tree(p, 1), high[p]);
        }
        Due.remark(x, 0, "1=2");
        DUE.is("34: REMARKS aside", x.tree(0, 0), 60);
        x.parent(0, 1, 26);
        DUE.is("34: it can't be", x.tree(0, 0), -2);
        DUE.is("34: it can't be for all", x.tree(3, 1), -2);
        x.parent(0, 1, 5);
        x.parent(3, 1, 10);
        DUE.is("34: two parents, least", x.tree(3, 0), 45);
        DUE.is("34: two parents, greatest child", x.tree(1, 1), 50);
        x.parent(1, 0, 0);
        DUE.is("34: one's own forefather by 5", x.tree(2, 0), -2);
        x.parent(0, 1, 0);
        DUE.is("34: by 0, of one AGE", x.tree(0, 0), 35);
        DUE.is("34: by 0, greatest", x.tree(0, 1), 50);
        DUE.is("34: what 2", x.tree(0, 2), -1);
        DUE.is("34: what -1", x.tree(0, -1), -1);
        DUE.is("34: one not told", x.tree(4, 0), -1);
        UncleAges chain = new UncleAges();
        for (int p = 0; p < 6; p++) {
            chain.person(p, 0, 99);
        }
        int[] order = {3, 0, 5, 1, 4, 2};
        for (int i = 0; i + 1 < 6; i++) {
            chain.parent(order[i], order[i + 1], 19);
        }
        DUE.is("34: six in a chain, the oldest", chain.tree(3, 0), 95);
        DUE.is("34: six in a chain, the youngest", chain.tree(2, 1), 4);
    }

    private static int tyresOf(int needed, int... miles) {
        UncleAges x = new UncleAges();
        Due.bytes(x, miles);
        int far = x.tyres(miles.length, needed);
        DUE.is("35: empty then", x.count(4), 0);
        return far;
    }

    private static void tyres() {
        DUE.is("35: 100 100 100, 2", tyresOf(2, 100, 100, 100), 150);
        DUE.is("35: 10 10 200, 2", tyresOf(2, 10, 10, 200), 20);
        DUE.is("35: 5 5 5, 2: whole miles", tyresOf(2, 5, 5, 5), 7);
        DUE.is("35: one", tyresOf(1, 255), 255);
        DUE.is("35: eight of 255, one behind the other", tyresOf(1, 255, 255, 255, 255, 255, 255, 255, 255), 2040);
        DUE.is("35: eight at once, the worst", tyresOf(8, 255, 255, 255, 7, 255, 255, 255, 255), 7);
        DUE.is("35: 1 1, 2", tyresOf(2, 1, 1), 1);
        DUE.is("35: 1 2 3 4, 3", tyresOf(3, 1, 2, 3, 4), 3);
        DUE.is("35: fewer than needed", tyresOf(3, 5, 5), -3);
        DUE.is("35: 0 miles", tyresOf(1, 5, 0), -2);
        DUE.is("35: 0 miles, ahead of -3", tyresOf(3, 0, 5), -2);
        UncleAges x = new UncleAges();
        DUE.is("35: empty at the start", x.tyres(1, 1), -1);
        x.feed(-1, -1, -1, -1, -1);
        DUE.is("35: no tyre", x.tyres(0, 1), -1);
        DUE.is("35: nine", x.tyres(9, 1), -1);
        DUE.is("35: none needed", x.tyres(1, 0), -1);
        DUE.is("35: nine needed", x.tyres(8, 9), -1);
        DUE.is("35: the tape stays", x.count(4), 20);
        DUE.is("35: the first ones alone", x.tyres(2, 1), 510);
    }

    private static int buttsOf(int much, int... six) {
        UncleAges x = new UncleAges();
        Due.bytes(x, six);
        int times = x.butts(much);
        DUE.is("36: empty then", x.count(4), 0);
        return times;
    }

    private static void butts() {
        DUE.is("36: 8 5 3, 4", buttsOf(4, 8, 5, 3, 8, 0, 0), 6);
        DUE.is("36: 8 5 3, 5", buttsOf(5, 8, 5, 3, 8, 0, 0), 1);
        DUE.is("36: 8 5 3, 2", buttsOf(2, 8, 5, 3, 8, 0, 0), 2);
        DUE.is("36: at once", buttsOf(8, 8, 5, 3, 8, 0, 0), 0);
        DUE.is("36: 0 at once", buttsOf(0, 8, 5, 3, 8, 0, 0), 0);
        DUE.is("36: never", buttsOf(9, 8, 5, 3, 8, 0, 0), -2);
        DUE.is("36: the third one", buttsOf(1, 8, 5, 3, 0, 5, 1), 0);
        DUE.is("36: 0 by pouring", buttsOf(0, 9, 9, 9, 1, 1, 1), 1);
        DUE.is("36: 20 20 20", buttsOf(20, 20, 20, 20, 7, 7, 6), 2);
        DUE.is("36: all 0", buttsOf(1, 0, 0, 0, 0, 0, 0), -2);
        DUE.is("36: a size above 20", buttsOf(0, 8, 5, 21, 8, 0, 0), -3);
        DUE.is("36: fuller than its size", buttsOf(8, 8, 5, 3, 8, 0, 4), -3);
        DUE.is("36: 255", buttsOf(8, 255, 5, 3, 8, 0, 0), -3);
        UncleAges x = new UncleAges();
        DUE.is("36: empty at the start", x.butts(1), -1);
        x.feed(0, 0, 0, 0, 0);
        DUE.is("36: -1", x.butts(-1), -1);
        DUE.is("36: 21", x.butts(21), -1);
        DUE.is("36: the tape stays", x.count(4), 20);
    }

    private static void worth() {
        UncleAges x = people(40, 10);
        Due.form(x, 2, "a-3*b");
        Due.form(x, 3, "b-a");
        DUE.is("39: 10", x.worth(0, 2), 10);
        DUE.is("39: -30", x.worth(0, 3), -30);
        x.years(6);
        DUE.is("39: as it was told", x.worth(0, 2), 10);
        Due.form(x, 2, "a-3*b");
        DUE.is("39: told in YEAR 6", x.worth(0, 2), -2);
        x.dies(1, 4);
        Due.form(x, 2, "a-3*b");
        DUE.is("39: told of the dead", x.worth(0, 2), 4);
        x.person(0, 30, 50);
        Due.remark(x, 0, "a>41");
        x.dies(0, 0);
        DUE.is("39: in the first ROW that FITS", x.worth(1, 2), 0 + 36 + 6 - 42);
        DUE.is("39: in the first ROW of all", x.worth(0, 2), 36 - 42);
        Due.form(x, 4, "2*a+1");
        DUE.is("39: the first ROW that FITS", x.worth(1, 4), 73);
        Due.remark(x, 1, "a=29");
        DUE.is("39: no ROW FITS", x.worth(2, 4), 0);
        DUE.is("39: FORM not told", x.worth(0, 1), 0);
        DUE.is("39: -1", x.worth(0, -1), 0);
        DUE.is("39: 6", x.worth(0, 6), 0);
        DUE.is("39: REMARK not told", x.worth(4, 4), 0);
        x.person(2, 0, 99);
        x.person(3, 0, 99);
        x.person(4, 0, 99);
        DUE.is("39: more than 200000 ROWS", x.worth(0, 4), 0);
    }

    private static void howOld() {
        UncleAges x = new UncleAges();
        DUE.is("41: two come to 10", x.howOld(2, 10, 0, 99), 6);
        DUE.is("41: two come to 10, 1 on", x.howOld(2, 10, 1, 99), 5);
        DUE.is("41: two come to 10, to 8", x.howOld(2, 10, 0, 8), 4);
        DUE.is("41: three come to 6", x.howOld(3, 6, 1, 6), 3);
        DUE.is("41: one", x.howOld(1, 99, 0, 99), 1);
        DUE.is("41: one, above 99", x.howOld(1, 100, 0, 99), 0);
        DUE.is("41: six come to 0", x.howOld(6, 0, 0, 99), 1);
        DUE.is("41: six come to 0, 1 on", x.howOld(6, 0, 1, 99), 0);
        DUE.is("41: of one AGE", x.howOld(4, 400, 99, 99), 0);
        DUE.is("41: 4 of 99", x.howOld(4, 396, 99, 99), 1);
        DUE.is("41: three come to 13", x.howOld(3, 13, 1, 99), 14);
        // The ways of six to come to 300 of 0 to 99 are as many as those to come to 594 - 300.
        DUE.is("41: turned round", x.howOld(6, 300, 0, 99), x.howOld(6, 294, 0, 99));
        DUE.is("41: six come to 297", x.howOld(6, 297, 0, 99), 8639572L);
        DUE.is("41: nobody", x.howOld(0, 0, 0, 99), -1);
        DUE.is("41: seven", x.howOld(7, 10, 0, 99), -1);
        DUE.is("41: a sum below 0", x.howOld(2, -1, 0, 99), -1);
        DUE.is("41: a sum above 400", x.howOld(6, 401, 0, 99), -1);
        DUE.is("41: LOW below 0", x.howOld(2, 10, -1, 99), -1);
        DUE.is("41: HIGH above 99", x.howOld(2, 10, 0, 100), -1);
        DUE.is("41: LOW above HIGH", x.howOld(2, 10, 6, 5), -1);
    }

    private static int checkOf(UncleAges x, int n, int... ages) {
        Due.bytes(x, ages);
        int first = x.check(n);
        DUE.is("44: empty then", x.count(4), 0);
        return first;
    }

    private static void check() {
        UncleAges x = new UncleAges();
        x.person(0, 30, 40);
        x.person(2, 5, 9);
        Due.remark(x, 0, "a=6*c");
        Due.remark(x, 5, "a>33");
        x.years(20);
        DUE.is("44: 36 0 6", checkOf(x, 3, 36, 0, 6), -1);
        DUE.is("44: six", checkOf(x, 6, 36, 0, 6, 0, 0, 0), -1);
        DUE.is("44: those behind are not asked", checkOf(x, 3, 36, 0, 6, 9), -1);
        DUE.is("44: a", checkOf(x, 3, 30, 0, 5), 0);
        DUE.is("44: c", checkOf(x, 3, 36, 0, 5), 2);
        DUE.is("44: one that is not told", checkOf(x, 3, 36, 1, 5), 1);
        DUE.is("44: not c", checkOf(x, 2, 36, 0, 5), -1);
        DUE.is("44: f", checkOf(x, 6, 36, 0, 6, 0, 0, 255), 5);
        DUE.is("44: nobody", checkOf(x, 0, 7), -1);
        DUE.is("44: nobody, of no byte", x.check(0), -1);
        DUE.is("44: has not so many", x.check(1), -2);
        x.feed(0, 0, 0, 0, 0);
        DUE.is("44: seven", x.check(7), -2);
        DUE.is("44: -1", x.check(-1), -2);
        DUE.is("44: the tape stays", x.count(4), 20);
        x.check(0);
        Due.remark(x, 1, "c=7");
        DUE.is("44: no ROW FITS all told ones", checkOf(x, 0), -2);
        x.takeBack(1);
        x.person(1, 0, 99);
        x.person(3, 0, 99);
        DUE.is("44: more than 200000 ROWS", checkOf(x, 0), -2);
    }

    private static void order() {
        UncleAges x = new UncleAges();
        for (int p = 0; p < 3; p++) {
            x.person(p, 0, 99);
        }
        Due.remark(x, 0, "1=2");
        DUE.is("21: -203", x.isTrue(1, 0, 0), -203);
        DUE.is("21: -204", x.isTrue(1, 1, 0), -204);
        DUE.is("22: -3000", x.together(1, 0, 6), -3000);
        DUE.is("22: -4000", x.together(1, 0, 5), -4000);
        DUE.is("23: -3", x.turned(1, 0, 1, 0), -3);
        DUE.is("23: NONE", x.turned(1, 0, 1, 2), -1);
        DUE.is("24: -3", x.squares(1, 0), -3);
        DUE.is("24: NONE", x.squares(1, 101), -1);
        DUE.is("25: -3000", x.when(1, 0, 1, 0), -3000);
        DUE.is("25: -4000", x.when(1, 0, 1, 200), -4000);
        DUE.is("34: a tree asks no ROWS", x.tree(0, 1), 99);
    }
}
