/** The sentences under "What it is" and "Terms" that name an edge, in their order: each with what stands on both its sides. */
public final class TermsTest {
    private static final Due DUE = new Due("terms");
    private static final String TWO_TO_THE_31 = "128*128*128*128*8";
    private static final int LEAST = Integer.MIN_VALUE;

    public static void main(String[] args) {
        usedForManyCalls();
        people();
        ages();
        theYear();
        theDead();
        rowsInOrder();
        mostRows();
        tooManyRows();
        rowsThatWrap();
        mostThatFit();
        sides();
        reckonedWith32Bits();
        remarksOf32Bits();
        textsAreLong();
        dividedBy();
        faultsFromTheLeft();
        faultsAtTheEnd();
        saidThen();
        toldAnew();
        memoryIsItsOwn();
        whichIsAskedFirst();
        DUE.end();
    }

    /** An object is used for at most 512 calls. */
    private static void usedForManyCalls() {
        UncleAges x = Due.people(0, 99, 0, 99);
        for (int i = 0; i < 170; i++) {
            x.feed(0x613d3030 + ((i / 10 % 10) << 8) + i % 10, 0, 0, 0, 0);
            DUE.is("remark in call " + (3 * i + 4), x.remark(i % 10, 4), 1);
            DUE.is("fit in call " + (3 * i + 5), x.fit(1 << i % 10, 0), i % 100);
        }
    }

    /** PEOPLE a to f (0 to 5). */
    private static void people() {
        UncleAges x = new UncleAges();
        for (int p = 0; p < 6; p++) {
            String letter = "" + (char) ('a' + p);
            DUE.is(letter + " isn't told", Due.remark(x, 0, letter + "=1"), -7000);
            DUE.is("person " + p, x.person(p, p, p), true);
            DUE.is(letter + " is told", Due.remark(x, 0, letter + "=1"), 1);
            DUE.is("the AGE of " + letter, x.fit(0, p), p);
        }
        for (int p : new int[] {-1, 6, 7, 31, 32, 64, LEAST, Integer.MAX_VALUE}) {
            DUE.is("person " + p, x.person(p, 0, 1), false);
            DUE.is("the AGE of " + p, x.fit(0, p), -1);
        }
        DUE.is("g", Due.remark(x, 0, "g=1"), -1000);
        DUE.is("` (ahead of a)", Due.remark(x, 0, "`=1"), -1000);
        DUE.is("g behind @(", Due.remark(x, 0, "a@(g:1)=1"), -1003);
        DUE.is("h behind @(", Due.remark(x, 0, "a@(h:1)=1"), -1003);
        DUE.is("` behind @(", Due.remark(x, 0, "a@(`:1)=1"), -1003);
        DUE.is("told ones", x.count(1), 63);
    }

    /** From LOW to HIGH (0 to 99 each). */
    private static void ages() {
        UncleAges x = Due.people(0, 99);
        DUE.is("least", x.ageIs(0, 0, 0), 0);
        DUE.is("greatest", x.ageIs(0, 0, 1), 99);
        DUE.is("unlike", x.ageIs(0, 0, 2), 100);
        DUE.is("of 0", x.aged(0, 0, 0), 1);
        DUE.is("of 99", x.aged(0, 0, 99), 1);
        x.person(0, 99, 99);
        DUE.is("99 alone", x.ageIs(0, 0, 0), 99);
        DUE.is("99 alone, unlike", x.ageIs(0, 0, 2), 1);
        DUE.is("99 alone, the middle", x.middle(0, 0), 99);
        x.person(0, 0, 0);
        DUE.is("0 alone", x.ageIs(0, 0, 1), 0);
        DUE.is("LOW -1", x.person(0, -1, 99), false);
        DUE.is("LOW least of all", x.person(0, LEAST, 99), false);
        DUE.is("HIGH 100", x.person(0, 0, 100), false);
        DUE.is("HIGH greatest of all", x.person(0, 0, Integer.MAX_VALUE), false);
        DUE.is("both above 99", x.person(0, 100, 100), false);
        DUE.is("both below 0", x.person(0, -1, -1), false);
        DUE.is("0 alone still", x.ageIs(0, 0, 1), 0);
    }

    /** THE YEAR (0 at first; 0 to 99). */
    private static void theYear() {
        UncleAges x = Due.people(3, 3);
        DUE.is("0 at first", x.count(0), 0);
        Due.remark(x, 0, "a=3");
        DUE.is("said at first", x.remarkIs(0, 2), 0);
        DUE.is("and so it is", x.fit(1, 100), 1);
        DUE.is("to 99", x.years(99), 99);
        Due.remark(x, 1, "a=102");
        DUE.is("said in 99", x.remarkIs(1, 2), 99);
        DUE.is("and so it is", x.fit(3, 100), 1);
        DUE.is("not to 100", x.years(1), -1);
    }

    /** One's AGE in a YEAR is that in YEAR 0 and the YEAR, of one dead from an earlier YEAR on that YEAR instead. */
    private static void theDead() {
        int[] deadFrom = {0, 1, 4, 5, 6, 99, 100};
        int[] older = {0, 1, 4, 5, 5, 5, 5};
        for (int i = 0; i < deadFrom.length; i++) {
            UncleAges x = Due.people(0, 99);
            x.dies(0, deadFrom[i]);
            x.years(5);
            Due.remark(x, 0, "a=20");
            DUE.is("20 in YEAR 5, dead from " + deadFrom[i], x.fit(1, 0), 20 - older[i]);
            Due.form(x, 0, "a");
            DUE.is("so many YEARS more", x.plain(10, 6), older[i]);
        }
    }

    /** By the first of them, then the second, and so on (by numbers, not by when they were told). */
    private static void rowsInOrder() {
        UncleAges x = new UncleAges();
        x.person(5, 0, 1);
        x.person(2, 0, 1);
        x.person(0, 0, 1);
        String[] texts = {"a+c+f=1", "a+c+f=2", "a+c=1", "a+f=1", "c+f=1"};
        int[][] first = {{0, 0, 1}, {0, 1, 1}, {0, 1, 0}, {0, 0, 1}, {0, 0, 1}};
        for (int i = 0; i < texts.length; i++) {
            Due.remark(x, 0, texts[i]);
            DUE.is("a in the first ROW of " + texts[i], x.fit(1, 0), first[i][0]);
            DUE.is("c in the first ROW of " + texts[i], x.fit(1, 2), first[i][1]);
            DUE.is("f in the first ROW of " + texts[i], x.fit(1, 5), first[i][2]);
        }
        UncleAges nobody = new UncleAges();
        DUE.is("none told: one ROW", nobody.rows(), 1);
        DUE.is("it fits", nobody.fit(0, 100), 1);
        Due.remark(nobody, 0, "1=1");
        Due.remark(nobody, 1, "1=2");
        DUE.is("it fits 1=1", nobody.fit(1, 100), 1);
        DUE.is("it doesn't fit 1=2", nobody.fit(2, 100), 0);
        DUE.is("it follows", nobody.follows(0, 0), 1);
        DUE.is("it is settled", nobody.fewest(0, 0), 0);
        DUE.is("nothing is not so", nobody.check(0), -2);
        nobody.takeBack(1);
        DUE.is("all is right", nobody.check(0), -1);
    }

    /** Are there more than 200000: here there are just as many, and the last one counts. */
    private static void mostRows() {
        UncleAges x = Due.people(0, 99, 0, 99, 0, 19);
        Due.remark(x, 0, "a+b+c=217");
        Due.remark(x, 1, "a+b+c=218");
        Due.form(x, 0, "a+b+c");
        DUE.is("9: ROWS", x.rows(), 200000);
        DUE.is("10: all fit", x.fit(0, 100), 200000);
        DUE.is("10: the last one", x.fit(1, 100), 1);
        DUE.is("10: it is the first to fit", x.fit(1, 2), 19);
        DUE.is("10: all but one", x.fit(3, 101), 1);
        DUE.is("11: greatest", x.ageIs(1, 0, 1), 99);
        DUE.is("11: unlike", x.ageIs(0, 2, 2), 20);
        DUE.is("12: of 99", x.aged(0, 0, 99), 2000);
        DUE.is("12: of 99 in the last one", x.aged(1, 0, 99), 1);
        DUE.is("13: in all", x.follows(1, 0), 1);
        DUE.is("13: in none", x.follows(0, 1), 2);
        DUE.is("14: clash", x.clash(2, 1), 2);
        DUE.is("15: needless", x.needless(3), 1);
        DUE.is("16: settles", x.settles(0), 0);
        DUE.is("17: fewest", x.fewest(0, 1), 1);
        DUE.is("18: off by a year", x.offByAYear(2, 1), 2);
        DUE.is("19: known", x.known(1, 0), 1);
        DUE.is("20: sayings", Due.sayings(x, 1, "A+", 2), 19);
        DUE.is("21: true", x.isTrue(1, 0, 1), 0);
        DUE.is("22: together", x.together(1, 2, 3), 19 - 99 - 99);
        DUE.is("23: turned", x.turned(1, 0, 1, 0), 1);
        DUE.is("24: squares", x.squares(1, 1), 2);
        DUE.is("25: when", x.when(1, 0, 2, 0), 80);
        DUE.is("27: ask next", x.asks(0, 0), 0);
        DUE.is("28: unlike", x.unlike(0, 1), 199999);
        DUE.is("29: shortest", x.shortest(1, 4), 99);
        DUE.is("30: often", x.often(1, 0, 2), 217);
        DUE.is("31: the middle", x.middle(0, 1), 49);
        DUE.is("31: the middle of one", x.middle(1, 1), 99);
        DUE.is("32: of one AGE", x.apart(0, 0, 1, 2), 2000);
        DUE.is("32: at least", x.apart(1, 0, 2, 0), 80);
        DUE.is("39: worth", x.worth(1, 0), 217);
        DUE.is("40: between", x.between(0, 0, 1), 217);
        x.takeBack(1);
        Due.bytes(x, 99, 99, 19);
        DUE.is("44: check", x.check(3), -1);
    }

    /** More than 200000 (200013 are the fewest that can be): what is asked of ROWS tells -3. */
    private static void tooManyRows() {
        UncleAges x = Due.people(0, 86, 0, 18, 0, 10, 0, 10);
        Due.remark(x, 0, "a+b+c+d=0");
        Due.form(x, 0, "a");
        int[] got = {x.rows(), x.fit(1, 100), x.fit(1, 101), x.fit(1, 0), x.ageIs(1, 0, 0), x.ageIs(1, 0, 1),
                x.ageIs(1, 0, 2), x.aged(1, 0, 0), x.follows(1, 0), x.follows(1, 1), x.clash(1, 0), x.clash(1, 1),
                x.needless(1), x.settles(0), x.fewest(0, 0), x.fewest(0, 1), x.offByAYear(1, 0), x.offByAYear(1, 1),
                x.known(1, 0), Due.sayings(x, 1, "A+", 100), x.turned(1, 0, 1, 0), x.squares(1, 0), x.squares(1, 100),
                x.asks(0, 0), x.asks(0, 1), x.asks(0, 2), x.unlike(0, 1), x.shortest(1, 0), x.often(1, 0, 0),
                x.often(1, 0, 1), x.often(1, 0, 2), x.middle(1, 0)};
        for (int i = 0; i < got.length; i++) {
            DUE.is("-3, " + i, got[i], -3);
        }
        DUE.is("20: the tape is empty", x.count(4), 0);
        DUE.is("21: -203", x.isTrue(1, 0, 0), -203);
        DUE.is("22: -3000", x.together(1, 0, 6), -3000);
        DUE.is("25: -3000", x.when(1, 0, 1, 0), -3000);
        DUE.is("32: -300", x.apart(1, 0, 1, 0), -300);
        DUE.is("32: -300 of 2, too", x.apart(1, 0, 1, 2), -300);
        DUE.is("39: 0", x.worth(1, 0), 0);
        DUE.is("40: 0", x.between(1, 0, 1), 0);
        x.feed(0, 0, 0, 0, 0);
        DUE.is("44: -2", x.check(0), -2);
        DUE.is("44: the tape is empty", x.count(4), 0);
        notAskedOfRows(x);
        x.person(3, 0, 9);
        DUE.is("181830 again", x.fit(1, 100), 1);
    }

    private static void notAskedOfRows(UncleAges x) {
        DUE.is("34: a tree is not asked of ROWS", x.tree(0, 1), 86);
        DUE.is("37: nor the plain sum", x.plain(0, 0), 1);
        DUE.is("38: nor what a REMARK is", x.remarkIs(0, 3), 15);
        DUE.is("45: nor what is told", x.count(20), 86);
        Due.bytes(x, 1, 2);
        DUE.is("26: nor who is who", x.whoIsWho(2, 3, 0, 100), 2);
        DUE.is("42: nor what is kept", x.keep(), 1);
    }

    /** As many ROWS as 2 to the 32nd or 36th are none with 32 bits. */
    private static void rowsThatWrap() {
        UncleAges x = Due.people(0, 63, 0, 63, 0, 63, 0, 63, 0, 63, 0, 3);
        DUE.is("2 to the 32nd", x.rows(), -3);
        DUE.is("fit in 2 to the 32nd", x.fit(0, 100), -3);
        DUE.is("the first of 2 to the 32nd", x.fit(0, 0), -3);
        x.person(5, 0, 63);
        DUE.is("2 to the 36th", x.rows(), -3);
        x.person(5, 0, 99);
        DUE.is("more", x.rows(), -3);
    }

    /** 2000 at most. */
    private static void mostThatFit() {
        UncleAges x = Due.people(0, 99, 0, 20);
        Due.remark(x, 0, "21*a+b>98");
        Due.remark(x, 1, "21*a+b>99");
        Due.form(x, 5, "21*a+b");
        DUE.is("one more", x.fit(1, 100), 2001);
        DUE.is("just as many", x.fit(2, 100), 2000);
        DUE.is("19: of one more", x.known(1, 5), -3);
        DUE.is("19: of just as many", x.known(2, 5), 2000);
        DUE.is("20: of one more", Due.sayings(x, 1, "F+", 100), -3);
        DUE.is("20: the first of one more", Due.sayings(x, 1, "F+", 0), -3);
        DUE.is("20: of just as many", Due.sayings(x, 2, "F+", 100), 2000);
        DUE.is("20: the first of just as many", Due.sayings(x, 2, "F+", 1), 16);
        for (int what = 0; what < 3; what++) {
            DUE.is("30: of one more", x.often(1, 5, what), -3);
        }
        DUE.is("30: of just as many", x.often(2, 5, 0), 2000);
        DUE.is("30: once each", x.often(2, 5, 1), 1);
        DUE.is("30: the least", x.often(2, 5, 2), 100);
        for (int what = 0; what < 5; what++) {
            DUE.is("29: of one more", x.shortest(1, what), -3);
            DUE.is("29: of just as many", x.shortest(2, what), -2);
        }
    }

    private static void plainIs(UncleAges x, String text, int ofA, int ofB, int besides) {
        DUE.is(text, Due.form(x, 0, text) >= 0, true);
        DUE.is(text + ", of a", x.plain(10, 0), ofA);
        DUE.is(text + ", of b", x.plain(10, 1), ofB);
        DUE.is(text + ", besides", x.plain(10, 6), besides);
    }

    /** TERMS with + or - between two, FACTORS with * between two; from the left on; a number of one to three digits. */
    private static void sides() {
        UncleAges x = Due.people(0, 9, 0, 9);
        plainIs(x, "0", 0, 0, 0);
        plainIs(x, "999", 0, 0, 999);
        plainIs(x, "000", 0, 0, 0);
        plainIs(x, "a", 1, 0, 0);
        plainIs(x, "(a)", 1, 0, 0);
        plainIs(x, "a-b-1", 1, -1, -1);
        plainIs(x, "a-(b-1)", 1, -1, 1);
        plainIs(x, "1-a+b", -1, 1, 1);
        plainIs(x, "2*3*a", 6, 0, 0);
        plainIs(x, "2*a*3", 6, 0, 0);
        plainIs(x, "a*2-b*3*0", 2, 0, 0);
        plainIs(x, "2*(a+3)*4", 8, 0, 24);
        plainIs(x, "5-2*(1-(a-b))", 2, -2, 3);
        plainIs(x, "a@(b:7)", 1, -1, 7);
        plainIs(x, "a@(a:b)", 0, 1, 0);
        plainIs(x, "a@(b:a@(b:1))", 2, -2, 1);
        plainIs(x, "3*a@(b:2*b)", 3, 3, 0);
        plainIs(x, "a@(b:0)*2-1", 2, -2, -1);
    }

    /** All is reckoned with 32 bits, as the machine does. */
    private static void reckonedWith32Bits() {
        UncleAges x = Due.people(0, 3, 7, 7);
        plainIs(x, "128*128*128*128*16*a+1", 0, 0, 1);
        plainIs(x, TWO_TO_THE_31 + "*a", LEAST, 0, 0);
        plainIs(x, TWO_TO_THE_31 + "*2", 0, 0, 0);
        plainIs(x, TWO_TO_THE_31 + "-1", 0, 0, Integer.MAX_VALUE);
        plainIs(x, "0-" + TWO_TO_THE_31, 0, 0, LEAST);
        plainIs(x, "999*999*999*999", 0, 0, -426416671);
        // It tells 0, -2147483648, 0, -2147483648 when a is 0 to 3.
        Due.form(x, 0, TWO_TO_THE_31 + "*a");
        DUE.is("19: known by none", x.known(0, 0), 0);
        DUE.is("20: nobody knows", Due.sayings(x, 0, "A-", 100), 4);
        DUE.is("30: unlike numbers", x.often(0, 0, 0), 2);
        DUE.is("30: the least of like ones", x.often(0, 0, 2), LEAST);
        DUE.is("40: at least", x.between(0, 0, 0), LEAST);
        DUE.is("40: at most", x.between(0, 0, 1), 0);
        Due.remark(x, 0, "a=3");
        DUE.is("39: in the ROW of a=3", x.worth(1, 0), LEAST);
        // 2^31 - 1 and one more is the least number of all.
        Due.form(x, 1, TWO_TO_THE_31 + "-1+a");
        DUE.is("40: at least, past the greatest", x.between(0, 1, 0), LEAST);
        DUE.is("40: at most, the greatest", x.between(0, 1, 1), Integer.MAX_VALUE);
        DUE.is("39: past the greatest", x.worth(1, 1), LEAST + 2);
        DUE.is("19: four numbers", x.known(0, 1), 4);
    }

    private static void remarksOf32Bits() {
        UncleAges x = Due.people(0, 3, 0, 0);
        Due.remark(x, 0, TWO_TO_THE_31 + "*a<0");
        DUE.is("10: 1 and 3", x.fit(1, 100), 2);
        DUE.is("10: the first", x.fit(1, 0), 1);
        DUE.is("21: as often as a is odd", x.isTrue(0, 0, 0), 100);
        DUE.is("21: last", x.isTrue(0, 0, 1), -1);
        DUE.is("21: next", x.isTrue(0, 0, 2), 1);
        Due.bytes(x, 2, 3);
        DUE.is("26: a must be odd", x.whoIsWho(2, 3, 1, 0), 1);
        // Of the least number less the greatest one is left: it doesn't fit, but is off by one.
        Due.remark(x, 1, TWO_TO_THE_31 + "=0-" + TWO_TO_THE_31 + "-1");
        DUE.is("10: not like", x.fit(2, 100), 0);
        DUE.is("18: off by one", x.offByAYear(2, 1), 2);
        Due.remark(x, 1, TWO_TO_THE_31 + ">1-1-1");
        DUE.is("10: the least is below 0", x.fit(2, 100), 0);
        Due.remark(x, 1, "1-1-2>" + TWO_TO_THE_31);
        DUE.is("10: -2 less the least is above 0", x.fit(2, 100), 4);
        Due.remark(x, 1, "1>" + TWO_TO_THE_31);
        DUE.is("10: 1 less the least is below 0", x.fit(2, 100), 0);
    }

    /** A TEXT of at most 60 bytes, no blanks. */
    private static void textsAreLong() {
        UncleAges x = Due.people(0, 99);
        StringBuilder ones = new StringBuilder("a");
        while (ones.length() < 59) {
            ones.append("+1");
        }
        DUE.is("59 bytes", Due.form(x, 5, ones.toString()), 1);
        DUE.is("29 ones", x.plain(15, 6), 29);
        ones.setLength(57);
        DUE.is("60 bytes", Due.form(x, 5, ones + "+10"), 1);
        DUE.is("28 ones and 10", x.plain(15, 6), 38);
        DUE.is("60 bytes of a REMARK", Due.remark(x, 9, ones + "=90"), 1);
        DUE.is("28 ones to 90", x.fit(512, 0), 62);
        Due.text(x, ones + "+100");
        DUE.is("61 bytes", x.form(5, 61), -1);
        DUE.is("61 bytes of a REMARK", x.remark(9, 61), -1);
        DUE.is("they stay", x.count(4), 80);
        DUE.is("60 of these", x.form(5, 60), 1);
        DUE.is("28 ones and 10 again", x.plain(15, 6), 38);
        int[] blanks = {' ', '\t', '\n', 0, 160};
        for (int blank : blanks) {
            DUE.is("blank " + blank + " at the start", Due.remark(x, 0, (char) blank + "a=1"), -1000);
            DUE.is("blank " + blank, Due.remark(x, 0, "a" + (char) blank + "=1"), -1001);
            DUE.is("blank " + blank + " at the end", Due.remark(x, 0, "a=1" + (char) blank), -1003);
            DUE.is("blank " + blank + " in a FORM", Due.form(x, 0, "a+" + (char) blank + "1"), -1002);
        }
    }

    private static int left(UncleAges x, String remark) {
        int told = Due.remark(x, 0, remark);
        return told < 0 ? told : x.fit(1, 100);
    }

    /** A number of one to three digits (not 0): divided by that without a rest. */
    private static void dividedBy() {
        UncleAges x = Due.people(0, 99);
        DUE.is("by 1", left(x, "a~1"), 100);
        DUE.is("by 2", left(x, "a~2"), 50);
        DUE.is("by 99", left(x, "a~99"), 2);
        DUE.is("by 100", left(x, "a~100"), 1);
        DUE.is("by 999", left(x, "a-1~999"), 1);
        DUE.is("by 007", left(x, "a~007"), 15);
        DUE.is("below 0", left(x, "a-99~10"), 10);
        DUE.is("by 0", left(x, "a~0"), -3002);
        DUE.is("by 000", left(x, "a~000"), -3002);
        DUE.is("by 0, when its digits end, ahead of what can't stand behind", left(x, "a~0="), -3002);
        DUE.is("by 0, a letter behind it", left(x, "a~00b"), -3002);
        DUE.is("0 of four digits: at the fourth", left(x, "a~0000"), -2005);
        DUE.is("1000", left(x, "a~1000"), -2005);
        DUE.is("0001", left(x, "a~0001"), -2005);
        DUE.is("a sign there", left(x, "a~-1"), -1002);
    }

    /** FAULTS, the first from the left (but 3 and 8 are asked when the number, the FACTOR ends). */
    private static void faultsFromTheLeft() {
        UncleAges x = Due.people(0, 99, 0, 99);
        String[] texts = {"c*1234=1", "1234*c=1", "a*b*c=1", "a*c*b=1", "c@(d:1)=1", "a@(d:c)=1", "a*b=1234", "a*b@(a:c)=1",
                "a*(b*b)=1", "a*b@(a:1234)=1", "(((((((c=1", "((((((c(=1", "((((((c)(=1", "a+?+c", "a+c+?", "a~0+c",
                "1000~0", "a*2*(3+b)*c=1", "(a)*2*b", "a*a@(a:1)", "a@(b:1)*b=1", "2*a@(b:c*d)=1", "0*a*b=1", "a*0*b=1",
                "(0*a)*b=1"};
        int[] due = {-7000, -2003, -8001, -7002, -7000, -7003, -8001, -7007,
                -8004, -2010, -5006, -7006, -7006, -1002, -7002, -3002,
                -2003, -8003, -8005, -8001, -8007, -7007, -8003, -8003,
                -8005};
        for (int i = 0; i < texts.length; i++) {
            DUE.is(texts[i], Due.remark(x, 0, texts[i]), due[i]);
        }
        DUE.is("a seventh ( that is not open in another one", Due.remark(x, 0, "((((((1))))))+(1)+((((((a))))))=1"), 1);
        DUE.is("a seventh ( open in the right SIDE", Due.remark(x, 0, "((((((1))))))=(((((((a"), -5020);
        DUE.is("a sixth one", Due.remark(x, 0, "((((((1))))))=((((((a"), -1021);
        DUE.is("a ( can't stand behind a letter, the seventh as well", Due.remark(x, 0, "((((((a(1"), -1007);
        DUE.is("behind @ it can", Due.remark(x, 0, "((((((a@(1"), -5008);
        DUE.is("the fifth one is behind @", Due.remark(x, 0, "((((a@(b:(1))))))=1"), 2);
        DUE.is("nothing but the last ones were told", x.count(2), 1);
    }

    /** What can't stand there (the end, too). */
    private static void faultsAtTheEnd() {
        UncleAges x = Due.people(0, 99, 0, 99);
        String whole = "2*(a-3)+a@(b:(4))=12*b";
        for (int n = 1; n < whole.length(); n++) {
            // A number or a letter may end there, if all that was opened is closed and the sign is behind.
            boolean canEnd = n == whole.length() - 3 || n == whole.length() - 2;
            DUE.is(whole.substring(0, n), Due.remark(x, 0, whole.substring(0, n)), canEnd ? 2 : -1000 - n);
        }
        DUE.is("the whole one", Due.remark(x, 0, whole), 2);
        String[] forms = {"a+", "2*", "(", "(a", "a@", "a@(", "a@(b", "a@(b:", "a@(b:a", "a-(b)*"};
        for (String form : forms) {
            DUE.is(form, Due.form(x, 0, form), -1000 - form.length());
        }
        DUE.is("= in a FORM", Due.form(x, 0, "a=b"), -1001);
        DUE.is("~ in a FORM", Due.form(x, 0, "a~0"), -1001);
        DUE.is("no FORM was told", x.count(3), 0);
    }

    /** Each said in THE YEAR in which it is told (of the dead as they were told by then). FORMS likewise. */
    private static void saidThen() {
        UncleAges x = Due.people(0, 99, 0, 99);
        x.years(10);
        x.dies(1, 4);
        Due.remark(x, 0, "a=b");
        Due.form(x, 0, "a-b");
        DUE.is("a has lived 6 years more", x.plain(0, 6), 6);
        DUE.is("of the FORM", x.plain(10, 6), 6);
        x.dies(1, 100);
        x.dies(0, 0);
        x.years(20);
        DUE.is("as they were told by then", x.plain(0, 6), 6);
        DUE.is("of the FORM", x.plain(10, 6), 6);
        DUE.is("the YEAR", x.remarkIs(0, 2), 10);
        DUE.is("of the FORM", x.remarkIs(10, 2), 10);
        DUE.is("ROWS by then", x.fit(1, 1), 6);
        Due.remark(x, 0, "a=b");
        DUE.is("told anew: b has lived 30 years more", x.plain(0, 6), -30);
        DUE.is("ROWS now", x.fit(1, 0), 30);
        DUE.is("the FORM wasn't", x.worth(1, 0), 30 - 0 + 6);
    }

    /** PEOPLE told anew: REMARKS, FORMS stay as they are. */
    private static void toldAnew() {
        UncleAges x = Due.people(10, 10);
        x.dies(0, 0);
        x.years(9);
        Due.remark(x, 0, "a=10");
        Due.form(x, 0, "2*a");
        x.person(0, 5, 20);
        DUE.is("alive, but the REMARK is of the dead", x.fit(1, 0), 10);
        DUE.is("the FORM, too", x.worth(1, 0), 20);
        DUE.is("its YEAR", x.remarkIs(0, 2), 9);
        DUE.is("told ones", x.count(2) + 10 * x.count(3), 11);
        Due.remark(x, 0, "a=20");
        DUE.is("of the living, told now", x.fit(1, 0), 11);
    }

    /** All memory is the uncle's own. */
    private static void memoryIsItsOwn() {
        UncleAges x = Due.people(1, 1, 2, 3);
        UncleAges y = Due.people(4, 9);
        Due.remark(x, 0, "b=3");
        Due.remark(y, 0, "a=5");
        x.feed(1, 2, 3, 4, 5);
        x.keep();
        x.years(7);
        DUE.is("the tape", y.count(4), 0);
        DUE.is("THE YEAR", y.count(0), 0);
        DUE.is("PEOPLE", y.count(1), 1);
        DUE.is("what is kept", y.undo(), false);
        DUE.is("ROWS of the one", x.fit(1, 1), 3);
        DUE.is("ROWS of the other one", y.fit(1, 0), 5);
        DUE.is("ROWS of the one, again", x.fit(1, 100), 1);
        x.parent(0, 1, 9);
        DUE.is("parents", y.tree(0, 0), 4);
        DUE.is("a new one", new UncleAges().count(2), 0);
        x.form(0, 1);
        Due.text(y, "a+9");
        Due.bytes(x, 9, 9);
        DUE.is("the tape of the other one", y.form(0, 3), 1);
        DUE.is("a+9", y.plain(10, 6), 9);
        Due.form(x, 0, "7");
        DUE.is("FORMS", y.plain(10, 6), 9);
    }

    /** NONE is asked first, then -3, then -2 (but where a call tells otherwise). */
    private static void whichIsAskedFirst() {
        UncleAges x = Due.people(0, 99, 0, 99, 0, 99);
        Due.form(x, 0, "a");
        Due.remark(x, 0, "c=1");
        DUE.is("20: NONE ahead of a FAULT", Due.sayings(x, 2, "?", 100), -1);
        DUE.is("20: the tape stays", x.count(4), 20);
        DUE.is("20: a FAULT ahead of -3", x.sayings(1, 1, 100), -1000);
        DUE.is("20: 7, too", Due.sayings(x, 1, "B+", 100), -7000);
        Due.bytes(x, 200, 100);
        DUE.is("26: NONE ahead of -3", x.whoIsWho(2, 3, 2, 0), -1);
        DUE.is("26: -3 ahead of -2", x.whoIsWho(2, 3, 0, 0), -3);
        Due.bytes(x, 1, 2);
        DUE.is("26: somebody else, ahead of -2", x.whoIsWho(2, 3, 1, 0), -3);
        Due.bytes(x, 0, 1);
        DUE.is("35: NONE ahead of -2", x.tyres(2, 9), -1);
        DUE.is("35: -2 ahead of -3", x.tyres(2, 3), -2);
        Due.bytes(x, 21, 0, 0, 0, 0, 0);
        DUE.is("36: NONE ahead of -3", x.butts(21), -1);
        DUE.is("36: -3 ahead of -2", x.butts(20), -3);
    }
}
