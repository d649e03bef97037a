/** Promises 1 to 9, 33, 37, 38, 42, 43, 45: what is told, texts and their faults, kept and undone. */
public final class TellingTest {
    private static final Due DUE = new Due("telling");

    public static void main(String[] args) {
        newObject();
        person();
        dies();
        years();
        feed();
        remarkSides();
        remarkFaults();
        remarkRefused();
        remarkStays();
        form();
        takeBack();
        rows();
        parent();
        plain();
        remarkIs();
        keepAndUndo();
        count();
        DUE.end();
    }

    private static UncleAges two(int high) {
        UncleAges x = new UncleAges();
        x.person(0, 0, high);
        x.person(1, 0, high);
        return x;
    }

    private static void newObject() {
        UncleAges x = new UncleAges();
        for (int what = 0; what <= 4; what++) {
            DUE.is("1: count(" + what + ") of a new object", x.count(what), 0);
        }
        DUE.is("1: rows of a new object", x.rows(), 1);
        DUE.is("1: undo of a new object", x.undo(), false);
        DUE.is("1: NONE", UncleAges.NONE, -1);
    }

    private static void person() {
        UncleAges x = new UncleAges();
        DUE.is("2: person(5, 0, 99)", x.person(5, 0, 99), true);
        DUE.is("2: person(0, 7, 7)", x.person(0, 7, 7), true);
        DUE.is("2: person(-1, 0, 1)", x.person(-1, 0, 1), false);
        DUE.is("2: person(6, 0, 1)", x.person(6, 0, 1), false);
        DUE.is("2: LOW below 0", x.person(0, -1, 1), false);
        DUE.is("2: HIGH above 99", x.person(0, 0, 100), false);
        DUE.is("2: LOW above HIGH", x.person(0, 8, 7), false);
        DUE.is("2: refused, so LOW stays", x.count(10), 7);
        DUE.is("2: told ones", x.count(1), 33);
        x.dies(0, 3);
        DUE.is("2: told anew", x.person(0, 1, 2), true);
        DUE.is("2: told anew, alive", x.count(30), -2);
        DUE.is("2: told anew, LOW", x.count(10), 1);
        DUE.is("2: told anew, HIGH", x.count(20), 2);
    }

    private static void dies() {
        UncleAges x = two(99);
        DUE.is("3: one not told", x.dies(2, 5), false);
        DUE.is("3: -1", x.dies(-1, 5), false);
        DUE.is("3: YEAR -1", x.dies(0, -1), false);
        DUE.is("3: YEAR 101", x.dies(0, 101), false);
        DUE.is("3: still alive", x.count(30), -2);
        DUE.is("3: YEAR 0", x.dies(0, 0), true);
        DUE.is("3: from 0 on", x.count(30), 0);
        DUE.is("3: YEAR 99", x.dies(0, 99), true);
        DUE.is("3: from 99 on", x.count(30), 99);
        DUE.is("3: YEAR 100", x.dies(0, 100), true);
        DUE.is("3: lives again", x.count(30), -2);
        // In YEAR 10 one dead from 4 on is as old as in 4; one dead from 10 or later on is 10 older.
        x.dies(0, 4);
        x.dies(1, 10);
        x.years(10);
        Due.remark(x, 0, "a=20");
        Due.remark(x, 1, "b=20");
        DUE.is("3: dead at 20 from YEAR 4 on", x.fit(3, 0), 16);
        DUE.is("3: dead from this YEAR on", x.fit(3, 1), 10);
        x.dies(0, 2);
        DUE.is("3: told after the remark", x.fit(3, 0), 16);
    }

    private static void years() {
        UncleAges x = new UncleAges();
        DUE.is("4: 0", x.years(0), -1);
        DUE.is("4: -1", x.years(-1), -1);
        DUE.is("4: 100", x.years(100), -1);
        DUE.is("4: 1", x.years(1), 1);
        DUE.is("4: 98 more", x.years(98), 99);
        DUE.is("4: above 99", x.years(1), -1);
        DUE.is("4: stays", x.count(0), 99);
        DUE.is("4: 99 at once", new UncleAges().years(99), 99);
    }

    private static void feed() {
        UncleAges x = two(99);
        DUE.is("5: twenty", x.feed(0x613d3700, 0, 0, 0, 0), 20);
        DUE.is("5: the highest byte first", x.remark(0, 3), 1);
        DUE.is("5: a=7", x.fit(1, 0), 7);
        // The bytes of the second int stand behind those of the first one, and so on.
        x.feed(0x302b302b, 0x302b302b, 0x302b302b, 0x302b302b, 0x302b302b);
        x.feed(0x302b613d, 0x39000000, 0, 0, 0);
        DUE.is("5: forty", x.count(4), 40);
        DUE.is("5: over two feedings", x.remark(0, 25), 1);
        DUE.is("5: a=9", x.fit(1, 0), 9);
        for (int i = 1; i <= 13; i++) {
            DUE.is("5: feeding " + i, x.feed(-1, -1, -1, -1, -1), 20 * i);
        }
        DUE.is("5: more than 260", x.feed(0, 0, 0, 0, 0), -1);
        DUE.is("5: 260 stay", x.count(4), 260);
        DUE.is("5: bytes above 127", x.remark(0, 2), -1000);
        DUE.is("5: empty then", x.count(4), 0);
    }

    private static int left(UncleAges x, String remark) {
        int told = Due.remark(x, 9, remark);
        return told < 0 ? told : x.fit(1 << 9, 100);
    }

    private static void remarkSides() {
        UncleAges x = two(9);
        DUE.is("6: a=5", left(x, "a=5"), 10);
        DUE.is("6: a<5", left(x, "a<5"), 50);
        DUE.is("6: a>5", left(x, "a>5"), 40);
        DUE.is("6: a~5", left(x, "a~5"), 20);
        DUE.is("6: a~999", left(x, "a~999"), 10);
        DUE.is("6: a-b~3 (below 0, too)", left(x, "a-b~3"), 34);
        DUE.is("6: 5=a", left(x, "005=a"), 10);
        DUE.is("6: a=b", left(x, "a=b"), 10);
        DUE.is("6: minus from the left on", left(x, "9-a-1=3"), 10);
        DUE.is("6: a minus that comes first, of a bracket", left(x, "9-(a-1)=3"), 10);
        x.fit(512, 0);
        DUE.is("6: 9-(a-1)=3 has a = 7", x.fit(512, 0), 7);
        DUE.is("6: times ahead of plus", left(x, "1+2*a=7"), 10);
        DUE.is("6: 1+2*a=7 has a = 3", x.fit(512, 0), 3);
        DUE.is("6: (1+2)*a", left(x, "(1+2)*a=6"), 10);
        DUE.is("6: (1+2)*a=6 has a = 2", x.fit(512, 0), 2);
        DUE.is("6: letters in a bracket times numbers", left(x, "2*(a+b)*3=6"), 2);
        // a is 2 * b's age when a was as old as b is now: a = 2 * (b + b - a).
        DUE.is("6: @", left(x, "a=2*b@(a:b)"), 3);
        DUE.is("6: @ of oneself", left(x, "a@(a:7)=7"), 100);
        DUE.is("6: @ in @", left(x, "a@(b:b@(a:a))=a"), 100);
        DUE.is("6: how many stand in it", Due.remark(x, 0, "a+a*2-b@(a:a)=a"), 2);
        DUE.is("6: none stands in it", Due.remark(x, 0, "1+1=2"), 0);
        DUE.is("6: one that comes to nothing stands in it", Due.remark(x, 0, "0*a=0"), 1);
        // 999^4 = 996005996001 is -426416671 with 32 bits.
        DUE.is("6: 32 bits", left(x, "999*999*999*999<0"), 100);
        DUE.is("6: 32 bits, exactly", left(x, "999*999*999*999+671+416*10*100+426*100*100*100=0"), 100);
        DUE.is("6: 32 bits, one beside it", left(x, "999*999*999*999+670+416*10*100+426*100*100*100=0"), 0);
        // 2^31 less 0 is below 0, and 0 less that as well.
        DUE.is("6: 2^31", left(x, "128*128*128*128*8<0"), 100);
        DUE.is("6: less 2^31", left(x, "0<128*128*128*128*8"), 100);
        DUE.is("6: 2^31 over 2", left(x, "128*128*128*128*8~2"), 100);
        DUE.is("6: 2^31 over 3", left(x, "128*128*128*128*8~3"), 0);
    }

    private static void fault(UncleAges x, String text, int number, int place) {
        DUE.is("6: " + text, Due.remark(x, 0, text), -1000 * number - place);
    }

    private static void remarkFaults() {
        UncleAges x = two(99);
        for (String end : new String[] {"a", "a=", "a+", "a=b+", "(a", "a*", "a@", "a@(", "a@(b", "a@(b:", "a@(b:1", "a~", "5"}) {
            fault(x, end, 1, end.length());
        }
        for (String start : new String[] {"=a", "-a=1", "+a", ")", "@", "g", "A", " a=1", "", "~", ":"}) {
            fault(x, start.isEmpty() ? "\377" : start, 1, 0);
        }
        fault(x, "a =5", 1, 1);
        fault(x, "a5=1", 1, 1);
        fault(x, "5a=1", 1, 1);
        fault(x, "ab=1", 1, 1);
        fault(x, "a(b)=1", 1, 1);
        fault(x, "()=1", 1, 1);
        fault(x, "(a=1)", 1, 2);
        fault(x, "a)=1", 1, 1);
        fault(x, "a=1)", 1, 3);
        fault(x, "a=b=1", 1, 3);
        fault(x, "a=b~1", 1, 3);
        fault(x, "a==1", 1, 2);
        fault(x, "a~b", 1, 2);
        fault(x, "a~(1)", 1, 2);
        fault(x, "a~1+1", 1, 3);
        fault(x, "a~2=1", 1, 3);
        fault(x, "a~2\0", 1, 3);
        fault(x, "5@(a:1)=1", 1, 1);
        fault(x, "a@b:1)=1", 1, 2);
        fault(x, "a@(5:1)=1", 1, 3);
        fault(x, "a@(b=1)=1", 1, 4);
        fault(x, "a@(b:1=1", 1, 6);
        fault(x, "(a)@(b:1)=1", 1, 3);
        fault(x, "1234=a", 2, 3);
        fault(x, "0000=a", 2, 3);
        fault(x, "a=b+1000", 2, 7);
        fault(x, "a~1000", 2, 5);
        fault(x, "a~0000", 2, 5);
        fault(x, "a~0", 3, 2);
        fault(x, "a~000", 3, 2);
        fault(x, "a~00x", 3, 2);
        fault(x, "a+1~0", 3, 4);
        deepFaults(x);
        fault(x, "c=1", 7, 0);
        fault(x, "a=f", 7, 2);
        fault(x, "c@(a:1)=1", 7, 0);
        fault(x, "a@(c:1)=1", 7, 3);
        fault(x, "a@(b:c)=1", 7, 5);
        fault(x, "a*b=1", 8, 1);
        fault(x, "a*2*b=1", 8, 3);
        fault(x, "2*a*3*4*b", 8, 7);
        fault(x, "a*b", 8, 1);
        fault(x, "a*b?", 8, 1);
        fault(x, "a*b@", 1, 4);
        fault(x, "a*(b", 1, 4);
        fault(x, "a*(1+c)=1", 7, 5);
        fault(x, "a*c=1", 7, 2);
        fault(x, "a*(1+b)=1", 8, 1);
        fault(x, "(a-a)*b=1", 8, 5);
        fault(x, "a*(b*b)=1", 8, 4);
        fault(x, "(2+1)*(a)*b@(a:1)=1", 8, 9);
        fault(x, "1=2+a*b", 8, 5);
        DUE.is("6: nothing was told", x.count(2), 0);
    }

    private static void deepFaults(UncleAges x) {
        UncleAges y = two(99);
        DUE.is("6: six in one another", Due.remark(y, 0, "((((((a))))))=1"), 1);
        DUE.is("6: six again, one behind the other", Due.remark(y, 1, "((((((a))))))+((((((b))))))=(1)"), 2);
        DUE.is("6: six with @(", Due.remark(y, 2, "(((((a@(b:1))))))=1"), 2);
        y.takeBack(0);
        fault(x, "(((((((a)))))))=1", 5, 6);
        fault(x, "((((((a@(b:1)))))))=1", 5, 8);
        fault(x, "a@(b:a@(b:a@(b:a@(b:a@(b:a@(b:a@(b:1)))))))=1", 5, 32);
        fault(x, "((((((1+(2", 5, 8);
    }

    private static void remarkRefused() {
        UncleAges x = two(99);
        Due.text(x, "a=1");
        DUE.is("6: remark(-1)", x.remark(-1, 3), -1);
        DUE.is("6: remark(10)", x.remark(10, 3), -1);
        DUE.is("6: no byte", x.remark(0, 0), -1);
        DUE.is("6: 61 bytes", x.remark(0, 61), -1);
        DUE.is("6: has not so many", x.remark(0, 21), -1);
        DUE.is("6: the tape stays", x.count(4), 20);
        DUE.is("6: taken at last", x.remark(0, 3), 1);
        DUE.is("6: empty then", x.count(4), 0);
        StringBuilder long60 = new StringBuilder("a=1");
        while (long60.length() < 59) {
            long60.append("+1");
        }
        DUE.is("6: 59 bytes", Due.remark(x, 1, long60.toString()), 1);
        DUE.is("6: 60 bytes", Due.remark(x, 1, long60 + "1"), 1);
        DUE.is("6: 28 ones and an 11", x.fit(2, 0), 39);
        Due.text(x, long60 + "11");
        DUE.is("6: 61 bytes are refused", x.remark(1, 61), -1);
        DUE.is("6: and stay", x.count(4), 80);
    }

    private static void remarkStays() {
        UncleAges x = two(99);
        Due.remark(x, 3, "a=40");
        DUE.is("6: a fault", Due.remark(x, 3, "a=?"), -1002);
        DUE.is("6: the tape is empty", x.count(4), 0);
        DUE.is("6: the one before stays", x.fit(8, 0), 40);
        DUE.is("6: in place of the one before", Due.remark(x, 3, "a=41+b"), 2);
        DUE.is("6: it is that now", x.fit(8, 0), 41);
        x.years(10);
        DUE.is("6: of the YEAR in which it was said", x.fit(8, 0), 41);
        Due.remark(x, 4, "a=41");
        DUE.is("6: said in YEAR 10", x.fit(16, 0), 31);
        x.person(0, 0, 35);
        DUE.is("6: PEOPLE told anew, REMARKS stay", x.fit(16, 0), 31);
        DUE.is("6: and don't fit", x.fit(8, 0), -2);
    }

    private static void form() {
        UncleAges x = two(99);
        DUE.is("7: a+b", Due.form(x, 0, "a+b"), 2);
        DUE.is("7: 7", Due.form(x, 5, "7"), 0);
        DUE.is("7: told ones", x.count(3), 33);
        DUE.is("7: no sign stands in one", Due.form(x, 1, "a=5"), -1001);
        DUE.is("7: ~", Due.form(x, 1, "a~5"), -1001);
        DUE.is("7: the end", Due.form(x, 1, "a+"), -1002);
        DUE.is("7: a fourth digit", Due.form(x, 1, "a+1000"), -2005);
        DUE.is("7: a seventh (", Due.form(x, 1, "(((((((a)))))))"), -5006);
        DUE.is("7: not told", Due.form(x, 1, "a+c"), -7002);
        DUE.is("7: a second letter", Due.form(x, 1, "a*b"), -8001);
        DUE.is("7: still the same ones", x.count(3), 33);
        Due.text(x, "a");
        DUE.is("7: form(-1)", x.form(-1, 1), -1);
        DUE.is("7: form(6)", x.form(6, 1), -1);
        DUE.is("7: no byte", x.form(0, 0), -1);
        DUE.is("7: has not so many", x.form(0, 21), -1);
        DUE.is("7: 61", x.form(0, 61), -1);
        DUE.is("7: the tape stays", x.count(4), 20);
        DUE.is("7: in place of the one before", x.form(0, 1), 1);
        DUE.is("7: empty then", x.count(4), 0);
        DUE.is("7: it is that now", x.plain(10, 1), 0);
        DUE.is("7: a fault leaves it", Due.form(x, 0, "b*"), -1002);
        DUE.is("7: as it was", x.plain(10, 0), 1);
    }

    private static void takeBack() {
        UncleAges x = two(99);
        Due.remark(x, 0, "a=1");
        Due.remark(x, 9, "a=2");
        DUE.is("8: -1", x.takeBack(-1), false);
        DUE.is("8: 10", x.takeBack(10), false);
        DUE.is("8: 1 is not told", x.takeBack(1), false);
        DUE.is("8: no ROW fits both", x.fit(513, 100), 0);
        DUE.is("8: 9", x.takeBack(9), true);
        DUE.is("8: 9 again", x.takeBack(9), false);
        DUE.is("8: told ones", x.count(2), 1);
        DUE.is("8: no such one in fit", x.fit(513, 100), -1);
        Due.form(x, 0, "a");
        DUE.is("8: a FORM is no REMARK", x.takeBack(10), false);
    }

    private static void rows() {
        UncleAges x = new UncleAges();
        DUE.is("9: none told", x.rows(), 1);
        x.person(3, 5, 5);
        DUE.is("9: one of one age", x.rows(), 1);
        x.person(0, 0, 99);
        x.person(1, 0, 99);
        DUE.is("9: two", x.rows(), 10000);
        x.person(2, 1, 20);
        DUE.is("9: 200000", x.rows(), 200000);
        DUE.is("9: asked of 200000", x.fit(0, 100), 200000);
        x.person(2, 0, 20);
        DUE.is("9: 210000", x.rows(), -3);
        for (int p = 0; p < 6; p++) {
            x.person(p, 0, 99);
        }
        DUE.is("9: 100^6", x.rows(), -3);
    }

    private static void parent() {
        UncleAges x = two(99);
        DUE.is("33: parent(0, 1, 20)", x.parent(0, 1, 20), true);
        DUE.is("33: of oneself", x.parent(0, 0, 20), false);
        DUE.is("33: of one not told", x.parent(0, 2, 20), false);
        DUE.is("33: by one not told", x.parent(2, 0, 20), false);
        DUE.is("33: -1", x.parent(-1, 0, 20), false);
        DUE.is("33: 6", x.parent(0, 6, 20), false);
        DUE.is("33: -2 years", x.parent(0, 1, -2), false);
        DUE.is("33: 100 years", x.parent(0, 1, 100), false);
        DUE.is("33: 20 still", x.tree(0, 0), 20);
        DUE.is("33: 99 years", x.parent(0, 1, 99), true);
        DUE.is("33: 99 now", x.tree(0, 0), 99);
        DUE.is("33: 0 years", x.parent(0, 1, 0), true);
        DUE.is("33: 0 now", x.tree(0, 0), 0);
        x.person(1, 7, 99);
        DUE.is("33: one told anew is still a child", x.tree(0, 0), 7);
        DUE.is("33: is not", x.parent(0, 1, -1), true);
        DUE.is("33: free", x.tree(0, 0), 0);
        DUE.is("33: is not, again", x.parent(0, 1, -1), true);
    }

    private static void plain() {
        UncleAges x = two(99);
        x.person(5, 0, 99);
        x.dies(5, 3);
        x.years(10);
        Due.remark(x, 2, "a=2*b@(a:b)+7");
        DUE.is("37: of a", x.plain(2, 0), 3);
        DUE.is("37: of b", x.plain(2, 1), -4);
        DUE.is("37: of c", x.plain(2, 2), 0);
        DUE.is("37: besides: 3*10-4*10-7", x.plain(2, 6), -17);
        Due.remark(x, 3, "5*f+a~9");
        DUE.is("37: of f", x.plain(3, 5), 5);
        DUE.is("37: besides: 5*3+10, not the 9", x.plain(3, 6), 25);
        Due.form(x, 4, "100-2*(a-3)*4");
        DUE.is("37: of a in a FORM", x.plain(14, 0), -8);
        DUE.is("37: besides: 100-80+24", x.plain(14, 6), 44);
        x.years(5);
        x.dies(5, 0);
        DUE.is("37: as they were told by then", x.plain(3, 6), 25);
        Due.remark(x, 0, "0-128*128*128*128*8-1=0");
        DUE.is("37: 32 bits", x.plain(0, 6), Integer.MAX_VALUE);
        DUE.is("37: not told", x.plain(1, 6), 0);
        DUE.is("37: FORM not told", x.plain(10, 6), 0);
        DUE.is("37: 16", x.plain(16, 6), 0);
        DUE.is("37: -1", x.plain(-1, 6), 0);
        DUE.is("37: what 7", x.plain(3, 7), 0);
        DUE.is("37: what -1", x.plain(3, -1), 0);
    }

    private static void remarkIs() {
        UncleAges x = two(99);
        Due.remark(x, 0, "a=1");
        x.years(3);
        Due.remark(x, 1, "b<1");
        Due.remark(x, 2, "1>2");
        Due.remark(x, 9, "a-b~999");
        Due.form(x, 5, "b");
        for (int k = 0; k < 3; k++) {
            DUE.is("38: sign", x.remarkIs(k, 0), k);
            DUE.is("38: no number", x.remarkIs(k, 1), 0);
            DUE.is("38: YEAR", x.remarkIs(k, 2), k == 0 ? 0 : 3);
        }
        DUE.is("38: ~", x.remarkIs(9, 0), 3);
        DUE.is("38: 999", x.remarkIs(9, 1), 999);
        DUE.is("38: a", x.remarkIs(0, 3), 1);
        DUE.is("38: none", x.remarkIs(2, 3), 0);
        DUE.is("38: a, b", x.remarkIs(9, 3), 3);
        DUE.is("38: YEAR of a FORM", x.remarkIs(15, 2), 3);
        DUE.is("38: b in a FORM", x.remarkIs(15, 3), 2);
        DUE.is("38: a FORM has no sign", x.remarkIs(15, 0), -1);
        DUE.is("38: a FORM has no number", x.remarkIs(15, 1), -1);
        DUE.is("38: what 4", x.remarkIs(0, 4), -1);
        DUE.is("38: what -1", x.remarkIs(0, -1), -1);
        DUE.is("38: not told", x.remarkIs(3, 2), -1);
        DUE.is("38: FORM not told", x.remarkIs(10, 2), -1);
        DUE.is("38: 16", x.remarkIs(16, 2), -1);
        DUE.is("38: -1", x.remarkIs(-1, 2), -1);
        Due.remark(x, 9, "a=1");
        DUE.is("38: told anew without a number", x.remarkIs(9, 1), 0);
    }

    private static void keepAndUndo() {
        UncleAges x = two(9);
        DUE.is("43: none was KEPT", x.undo(), false);
        Due.remark(x, 0, "a=1");
        Due.remark(x, 7, "b=1");
        Due.form(x, 2, "a");
        x.parent(0, 1, 3);
        x.dies(1, 50);
        x.years(4);
        DUE.is("42: two REMARKS", x.keep(), 2);
        x.person(0, 2, 3);
        x.person(2, 1, 2);
        x.dies(1, 60);
        x.takeBack(7);
        Due.remark(x, 0, "a=2");
        Due.remark(x, 3, "c=2");
        Due.form(x, 2, "c+c");
        x.parent(0, 1, 5);
        x.parent(1, 2, 5);
        x.years(6);
        x.feed(0, 0, 0, 0, 0);
        for (int time = 0; time < 2; time++) {
            DUE.is("43: undo", x.undo(), true);
            DUE.is("43: THE YEAR", x.count(0), 4);
            DUE.is("43: PEOPLE", x.count(1), 3);
            DUE.is("43: REMARKS", x.count(2), 129);
            DUE.is("43: FORMS", x.count(3), 4);
            DUE.is("43: the tape is not undone", x.count(4), time == 0 ? 20 : 0);
            DUE.is("43: LOW", x.count(10), 0);
            DUE.is("43: dead", x.count(31), 50);
            DUE.is("43: a REMARK", x.fit(129, 0), 1);
            DUE.is("43: a FORM", x.plain(12, 0), 1);
            DUE.is("43: parents", x.tree(0, 0), 3);
            x.form(5, 1);
            x.years(9);
            x.person(3, 1, 1);
            Due.remark(x, 0, "a=7");
            DUE.is("43: what was told after it", x.fit(1, 100), 0);
        }
        DUE.is("42: KEPT anew", x.keep(), 2);
        x.takeBack(0);
        x.undo();
        DUE.is("43: as KEPT last", x.count(0), 13);
        UncleAges y = new UncleAges();
        DUE.is("42: no REMARK", y.keep(), 0);
        y.person(0, 1, 1);
        DUE.is("43: to nothing", y.undo(), true);
        DUE.is("43: nobody", y.count(1), 0);
    }

    private static void count() {
        UncleAges x = new UncleAges();
        x.person(1, 3, 8);
        x.person(4, 2, 2);
        x.dies(4, 77);
        x.years(7);
        Due.remark(x, 5, "b=4");
        Due.form(x, 3, "b");
        x.feed(0, 0, 0, 0, 0);
        int[] due = {7, 18, 32, 8, 20};
        for (int what = 0; what < 5; what++) {
            DUE.is("45: count(" + what + ")", x.count(what), due[what]);
        }
        DUE.is("45: LOW", x.count(11), 3);
        DUE.is("45: HIGH", x.count(21), 8);
        DUE.is("45: lives", x.count(31), -2);
        DUE.is("45: LOW of e", x.count(14), 2);
        DUE.is("45: HIGH of e", x.count(24), 2);
        DUE.is("45: dead", x.count(34), 77);
        for (int none : new int[] {-1, 5, 9, 10, 15, 16, 20, 26, 30, 36, 41, 44, 1000, Integer.MIN_VALUE, Integer.MAX_VALUE}) {
            DUE.is("45: count(" + none + ")", x.count(none), -1);
        }
    }
}
