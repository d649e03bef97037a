import java.util.function.ToLongFunction;

/**
 * "A call that is refused (NONE, false) changes nothing but the tape, where it is told": each way to be
 * refused, on an object that has been told all that can be told. What is asked changes nothing either,
 * and what is KEPT comes back whole.
 */
public final class RefusedTest {
    private static final Due DUE = new Due("refused");
    private static final int LEAST = Integer.MIN_VALUE;
    private static final int MOST = Integer.MAX_VALUE;
    private static final int TAPE = 260;

    public static void main(String[] args) {
        refusedPeople();
        refusedTexts();
        refusedQuestions();
        refusedOfTheTape();
        emptiedTape();
        questions();
        questionsOfTheTape();
        kept();
        keptAgain();
        DUE.end();
    }

    /** Six PEOPLE, ten REMARKS, six FORMS, parents, one dead, YEAR 7; the tape is full and begins with a FORM's text. */
    private static UncleAges told() {
        UncleAges x = Due.people(60, 62, 30, 31, 5, 6, 1, 1, 0, 1, 16, 18);
        x.parent(0, 1, 20);
        x.parent(1, 2, 20);
        x.parent(5, 4, 18);
        x.dies(3, 5);
        x.years(7);
        for (int k = 0; k < 10; k++) {
            Due.remark(x, k, (k < 5 ? "" : "1+") + new String[] {"a>b", "b=f+14", "2*c-d<9", "a-f~2", "e=7"}[k % 5]);
        }
        for (int k = 0; k < 6; k++) {
            Due.form(x, k, (char) ('a' + k) + "*3-" + k);
        }
        Due.text(x, "a+7");
        for (int had = 20; had < TAPE; had += 20) {
            x.feed(0x08080808, 0x08080808, 0x08080808, 0x08080808, 0x08080808);
        }
        return x;
    }

    /** All that can be asked without the tape of what is told. */
    private static String print(UncleAges x) {
        StringBuilder print = new StringBuilder();
        for (int what = 0; what < 40; what++) {
            print.append(what == 4 ? 0 : x.count(what)).append(' ');
        }
        for (int k = 0; k < 16; k++) {
            print.append('\n').append(k).append(": ");
            for (int what = 0; what < 7; what++) {
                print.append(x.plain(k, what)).append(' ').append(x.remarkIs(k, what)).append(' ');
            }
            for (int what = 0; what < 3; what++) {
                print.append(x.isTrue(0, k, what)).append(' ').append(x.fit(1 << k, 100)).append(' ');
            }
        }
        print.append('\n').append(x.rows());
        for (int p = 0; p < 6; p++) {
            print.append(' ').append(x.tree(p, 0)).append(' ').append(x.tree(p, 1)).append(' ').append(x.fit(0, p));
        }
        return print.toString();
    }

    /** The call answers so, nothing is changed, and the tape stays, to its first bytes. */
    private static void refused(String name, ToLongFunction<UncleAges> call, long due) {
        UncleAges x = told();
        String before = print(x);
        DUE.is(name, call.applyAsLong(x), due);
        DUE.is(name + " changes nothing", print(x), before);
        DUE.is(name + ": the tape stays", x.count(4), TAPE);
        DUE.is(name + ": its bytes, too", x.form(0, 3), 1);
        DUE.is(name + ": a+7 in YEAR 7", x.plain(10, 6), 14);
        DUE.is(name + ": nothing was kept", x.undo(), false);
    }

    private static void refused(String name, ToLongFunction<UncleAges> call) {
        refused(name, call, -1);
    }

    private static long asNumber(boolean answer) {
        return answer ? 1 : 0;
    }

    private static void refusedPeople() {
        for (int p : new int[] {-1, 6, 32, LEAST, MOST}) {
            refused("2: person " + p, x -> asNumber(x.person(p, 0, 1)), 0);
            refused("3: dies " + p, x -> asNumber(x.dies(p, 3)), 0);
            refused("33: parent " + p, x -> asNumber(x.parent(p, 0, 3)), 0);
            refused("33: child " + p, x -> asNumber(x.parent(0, p, 3)), 0);
        }
        refused("2: LOW above HIGH", x -> asNumber(x.person(0, 5, 4)), 0);
        refused("2: LOW -1", x -> asNumber(x.person(0, -1, 4)), 0);
        refused("2: HIGH 100", x -> asNumber(x.person(0, 5, 100)), 0);
        for (int year : new int[] {-1, 101, LEAST, MOST}) {
            refused("3: YEAR " + year, x -> asNumber(x.dies(0, year)), 0);
        }
        for (int n : new int[] {0, -1, 93, 99, 100, LEAST, MOST}) {
            refused("4: " + n + " YEARS", x -> x.years(n));
        }
        refused("5: 280 bytes", x -> x.feed(1, 2, 3, 4, 5));
        refused("33: of oneself", x -> asNumber(x.parent(0, 0, 3)), 0);
        for (int years : new int[] {-2, 100, LEAST, MOST}) {
            refused("33: by " + years, x -> asNumber(x.parent(0, 1, years)), 0);
        }
        refused("43: none was KEPT", x -> asNumber(x.undo()), 0);
        for (int k : new int[] {-1, 10, 16, 32, LEAST, MOST}) {
            refused("8: " + k, x -> asNumber(x.takeBack(k)), 0);
        }
    }

    private static void refusedTexts() {
        for (int k : new int[] {-1, 10, 16, 32, LEAST, MOST}) {
            refused("6: remark " + k, x -> x.remark(k, 3));
        }
        for (int k : new int[] {-1, 6, 10, 32, LEAST, MOST}) {
            refused("7: form " + k, x -> x.form(k, 3));
        }
        for (int n : new int[] {0, -1, 61, 260, 261, LEAST, MOST}) {
            refused("6: of " + n + " bytes", x -> x.remark(0, n));
            refused("7: of " + n + " bytes", x -> x.form(0, n));
        }
    }

    private static void refusedQuestions() {
        for (int none : new int[] {1024, -1, LEAST, 65536}) {
            refused("10: REMARKS " + none, x -> x.fit(none, 100));
            refused("11: REMARKS " + none, x -> x.ageIs(none, 0, 0));
            refused("12: REMARKS " + none, x -> x.aged(none, 0, 0));
            refused("13: REMARKS " + none, x -> x.follows(none, 0));
            refused("14: REMARKS " + none, x -> x.clash(none, 0));
            refused("15: REMARKS " + none, x -> x.needless(none));
            refused("16: REMARKS " + none, x -> x.settles(none));
            refused("17: REMARKS " + none, x -> x.fewest(none, 0));
            refused("18: REMARKS " + none, x -> x.offByAYear(none, 0));
            refused("19: REMARKS " + none, x -> x.known(none, 0));
            refused("20: REMARKS " + none, x -> x.sayings(none, 2, 100));
            refused("21: REMARKS " + none, x -> x.isTrue(none, 0, 0), -204);
            refused("22: REMARKS " + none, x -> x.together(none, 0, 6), -4000);
            refused("23: REMARKS " + none, x -> x.turned(none, 0, 1, 0));
            refused("24: REMARKS " + none, x -> x.squares(none, 0));
            refused("25: REMARKS " + none, x -> x.when(none, 0, 1, 0), -4000);
            refused("26: REMARKS " + none, x -> x.whoIsWho(2, 3, none, 100));
            refused("27: REMARKS " + none, x -> x.asks(none, 0));
            refused("28: REMARKS " + none, x -> x.unlike(none, 0));
            refused("28: others " + none, x -> x.unlike(0, none));
            refused("29: REMARKS " + none, x -> x.shortest(none, 0));
            refused("30: REMARKS " + none, x -> x.often(none, 0, 0));
            refused("31: REMARKS " + none, x -> x.middle(none, 0));
            refused("32: REMARKS " + none, x -> x.apart(none, 0, 1, 0), -400);
            refused("39: REMARKS " + none, x -> x.worth(none, 0), 0);
            refused("40: REMARKS " + none, x -> x.between(none, 0, 0), 0);
        }
        refusedOfPeople();
        refusedOfWhat();
    }

    private static void refusedOfPeople() {
        for (int none : new int[] {-1, 6, 7, 32, LEAST, MOST}) {
            refused("10: what " + none, x -> x.fit(0, none));
            refused("11: of " + none, x -> x.ageIs(0, none, 0));
            refused("12: of " + none, x -> x.aged(0, none, 0));
            refused("20: what " + none, x -> x.sayings(0, 2, none));
            refused("22: of " + none, x -> x.together(0, none, 6), -4000);
            refused("23: of " + none, x -> x.turned(0, none, 1, 0));
            refused("23: and " + none, x -> x.turned(0, 1, none, 0));
            refused("25: of " + none, x -> x.when(0, none, 1, 0), -4000);
            refused("25: and " + none, x -> x.when(0, 1, none, 0), -4000);
            refused("26: what " + none, x -> x.whoIsWho(2, 3, 0, none));
            refused("31: of " + none, x -> x.middle(0, none));
            refused("32: of " + none, x -> x.apart(0, none, 1, 0), -400);
            refused("32: and " + none, x -> x.apart(0, 1, none, 0), -400);
            refused("34: of " + none, x -> x.tree(none, 0));
            refused("19: FORM " + none, x -> x.known(0, none));
            refused("30: FORM " + none, x -> x.often(0, none, 0));
            refused("39: FORM " + none, x -> x.worth(0, none), 0);
            refused("40: FORM " + none, x -> x.between(0, none, 0), 0);
        }
        refused("23: the same one", x -> x.turned(0, 5, 5, 0));
        refused("32: the same one", x -> x.apart(0, 5, 5, 0), -400);
        for (int others : new int[] {0, 1, 2, 32, 3, 33, 63, 64, 66, 192, -2, LEAST}) {
            refused("22: others " + others, x -> x.together(0, 0, others), -4000);
        }
        for (int none : new int[] {-1, 10, 15, 16, 32, LEAST, MOST}) {
            refused("21: REMARK " + none, x -> x.isTrue(0, none, 0), -204);
        }
        for (int none : new int[] {-1, 16, 17, 32, LEAST, MOST}) {
            refused("37: " + none, x -> x.plain(none, 0), 0);
            refused("38: " + none, x -> x.remarkIs(none, 2));
        }
        for (int k = 10; k < 16; k++) {
            int form = k;
            refused("38: the sign of FORM " + k, x -> x.remarkIs(form, 0));
            refused("38: the number of FORM " + k, x -> x.remarkIs(form, 1));
        }
    }

    private static void refusedOfWhat() {
        for (int none : new int[] {-1, 6, 99, 102, 103, LEAST, MOST}) {
            refused("10: what " + none, x -> x.fit(0, none));
        }
        for (int none : new int[] {-1, 100, 101, LEAST, MOST}) {
            refused("12: AGE " + none, x -> x.aged(0, 0, none));
        }
        for (int none : new int[] {-1, 200, LEAST, MOST}) {
            refused("25: AGE " + none, x -> x.when(0, 0, 1, none), -4000);
        }
        for (int none : new int[] {-1, 101, LEAST, MOST}) {
            refused("24: what " + none, x -> x.squares(0, none));
        }
        for (int none : new int[] {-1, 5, 6, LEAST, MOST}) {
            refused("29: what " + none, x -> x.shortest(0, none));
        }
        for (int none : new int[] {-1, 3, 4, LEAST, MOST}) {
            refused("11: what " + none, x -> x.ageIs(0, 0, none));
            refused("21: what " + none, x -> x.isTrue(0, 0, none), -204);
            refused("27: what " + none, x -> x.asks(0, none));
            refused("30: what " + none, x -> x.often(0, 0, none));
            refused("32: what " + none, x -> x.apart(0, 0, 1, none), -400);
        }
        for (int none : new int[] {-1, 2, 3, LEAST, MOST}) {
            refused("13: what " + none, x -> x.follows(0, none));
            refused("14: what " + none, x -> x.clash(0, none));
            refused("17: what " + none, x -> x.fewest(0, none));
            refused("18: what " + none, x -> x.offByAYear(0, none));
            refused("23: what " + none, x -> x.turned(0, 0, 1, none));
            refused("34: what " + none, x -> x.tree(0, none));
            refused("40: what " + none, x -> x.between(0, 0, none), 0);
        }
        for (int none : new int[] {-1, 7, LEAST, MOST}) {
            refused("37: what " + none, x -> x.plain(0, none), 0);
        }
        for (int none : new int[] {-1, 4, 5, LEAST, MOST}) {
            refused("38: what " + none, x -> x.remarkIs(0, none));
            refused("38: what " + none + " of a FORM", x -> x.remarkIs(10, none));
        }
        for (int none : new int[] {-1, 5, 9, 16, 19, 26, 29, 36, 39, 40, 45, 100, -10, -6, LEAST, MOST}) {
            refused("45: what " + none, x -> x.count(none));
        }
    }

    private static void refusedOfTheTape() {
        for (int none : new int[] {0, -1, 21, 260, 261, LEAST, MOST}) {
            refused("20: of " + none, x -> x.sayings(0, none, 100));
        }
        for (int none : new int[] {1, 0, -1, 7, LEAST, MOST}) {
            refused("26: of " + none, x -> x.whoIsWho(none, 3, 0, 100));
        }
        for (int people : new int[] {0, 1, 7, 63, 64, 65, 192, -1, LEAST}) {
            refused("26: PEOPLE " + people, x -> x.whoIsWho(2, people, 0, 100));
        }
        for (int none : new int[] {2, 5, 99, 101, 102}) {
            refused("26: what " + none, x -> x.whoIsWho(2, 3, 0, none));
        }
        for (int none : new int[] {0, -1, 9, LEAST, MOST}) {
            refused("35: of " + none, x -> x.tyres(none, 1));
            refused("35: needed " + none, x -> x.tyres(8, none));
        }
        for (int none : new int[] {-1, 21, LEAST, MOST}) {
            refused("36: " + none, x -> x.butts(none));
        }
        for (int none : new int[] {-1, 7, 260, LEAST, MOST}) {
            refused("44: of " + none, x -> x.check(none), -2);
        }
        for (int none : new int[] {0, 7, -1, LEAST, MOST}) {
            refused("41: n " + none, x -> x.howOld(none, 10, 0, 9));
        }
        for (int none : new int[] {-1, 401, LEAST, MOST}) {
            refused("41: sum " + none, x -> x.howOld(2, none, 0, 9));
        }
        refused("41: LOW -1", x -> x.howOld(2, 10, -1, 9));
        refused("41: HIGH 100", x -> x.howOld(2, 10, 0, 100));
        refused("41: LOW above HIGH", x -> x.howOld(2, 10, 7, 6));
        UncleAges x = Due.people(0, 1, 0, 1);
        DUE.is("6: an empty tape", x.remark(0, 1), -1);
        DUE.is("7: an empty tape", x.form(0, 1), -1);
        Due.form(x, 0, "a");
        DUE.is("20: an empty tape", x.sayings(0, 2, 100), -1);
        DUE.is("26: an empty tape", x.whoIsWho(2, 3, 0, 100), -1);
        DUE.is("35: an empty tape", x.tyres(1, 1), -1);
        DUE.is("36: an empty tape", x.butts(1), -1);
        DUE.is("44: an empty tape", x.check(1), -2);
        x.feed(0, 0, 0, 0, 0);
        DUE.is("6: not so many", x.remark(0, 21), -1);
        DUE.is("7: not so many", x.form(0, 21), -1);
        DUE.is("all of it", x.form(0, 20), -1000);
    }

    /** What takes the tape and then can't be: nothing but the tape is changed, and that is empty. */
    private static void emptied(String name, ToLongFunction<UncleAges> call, long due) {
        UncleAges x = told();
        String before = print(x);
        DUE.is(name, call.applyAsLong(x), due);
        DUE.is(name + " changes nothing", print(x), before);
        DUE.is(name + ": the tape is empty", x.count(4), 0);
        DUE.is(name + ": nothing was kept", x.undo(), false);
    }

    private static void emptiedTape() {
        for (int k = 0; k < 10; k++) {
            int remark = k;
            emptied("6: a FAULT, the one before stays, " + k, x -> x.remark(remark, 3), -1003);
        }
        for (int k = 0; k < 6; k++) {
            int form = k;
            emptied("7: a FAULT, the one before stays, " + k, x -> x.form(form, 4), -1003);
        }
        emptied("20: a FAULT", x -> x.sayings(0, 2, 100), -1000);
        emptied("26: an AGE above 99", x -> twoOnTape(x, 100, 1).whoIsWho(2, 3, 0, 100), -3);
        emptied("26: somebody else", x -> twoOnTape(x, 1, 1).whoIsWho(2, 12, 1, 100), -3);
        emptied("26: no way", x -> twoOnTape(x, 1, 1).whoIsWho(2, 3, 1, 1), -2);
        emptied("35: 0 miles", x -> twoOnTape(x, 1, 0).tyres(2, 3), -2);
        emptied("35: fewer than needed", x -> twoOnTape(x, 1, 1).tyres(2, 3), -3);
        emptied("36: a size above 20", x -> twoOnTape(x, 21, 1).butts(1), -3);
        emptied("36: never", x -> twoOnTape(x, 5, 5).butts(1), -2);
        emptied("44: no ROW FITS", x -> x.check(6), -2);
        emptied("44: of no byte", x -> x.check(0), -2);
    }

    private static UncleAges twoOnTape(UncleAges x, int one, int other) {
        x.form(0, 3);
        Due.form(x, 0, "a*3-0");
        Due.bytes(x, one, other);
        return x;
    }

    /** What is asked changes nothing, and the tape stays. */
    private static void asked(String name, ToLongFunction<UncleAges> call) {
        UncleAges x = told();
        String before = print(x);
        long answer = call.applyAsLong(x);
        DUE.is(name + " changes nothing", print(x), before);
        DUE.is(name + ": the tape stays", x.count(4), TAPE);
        DUE.is(name + " is answered the same again", call.applyAsLong(x), answer);
    }

    private static void questions() {
        asked("9", x -> x.rows());
        for (int remarks : new int[] {0, 1, 7, 32, 512, 1023}) {
            for (int what = 0; what < 6; what++) {
                int w = what;
                asked("10", x -> x.fit(remarks, w));
                asked("19", x -> x.known(remarks, w));
                asked("24", x -> x.squares(remarks, w));
                asked("31", x -> x.middle(remarks, w));
                asked("39", x -> x.worth(remarks, w));
                asked("21", x -> x.isTrue(remarks, w, w % 3));
                asked("30", x -> x.often(remarks, w, w % 3));
                asked("11", x -> x.ageIs(remarks, w, w % 3));
                asked("12", x -> x.aged(remarks, w, w));
                asked("32", x -> x.apart(remarks, w, (w + 1) % 6, w % 3));
                asked("23", x -> x.turned(remarks, w, (w + 1) % 6, w % 2));
                asked("25", x -> x.when(remarks, w, w, w));
                asked("22", x -> x.together(remarks, w, 63 & ~(1 << w)));
                asked("27", x -> x.asks(remarks, w % 3));
                asked("29", x -> x.shortest(remarks, w % 5));
                asked("40", x -> x.between(remarks, w, w % 2));
            }
            asked("10: how many", x -> x.fit(remarks, 100));
            asked("10: all but one", x -> x.fit(remarks, 101));
            asked("13", x -> x.follows(remarks, 0));
            asked("14", x -> x.clash(remarks, 1));
            asked("15", x -> x.needless(remarks));
            asked("16", x -> x.settles(remarks));
            asked("17", x -> x.fewest(remarks, 1));
            asked("18", x -> x.offByAYear(remarks, 1));
            asked("28", x -> x.unlike(remarks, 3));
        }
        asked("41", x -> x.howOld(6, 300, 0, 99));
    }

    /** What takes the tape changes nothing else. */
    private static void questionsOfTheTape() {
        UncleAges x = told();
        String before = print(x);
        x.form(5, 1);
        Due.form(x, 5, "f*3-5");
        Due.sayings(x, 0, "A-B-F+", 100);
        Due.bytes(x, 8, 7, 6, 5, 4, 3);
        x.whoIsWho(6, 63, 1023, 5);
        Due.bytes(x, 8, 7, 6, 5, 4, 3);
        x.tyres(6, 2);
        Due.bytes(x, 8, 7, 6, 5, 4, 3);
        x.butts(2);
        Due.bytes(x, 8, 7, 6, 5, 4, 3);
        x.check(6);
        DUE.is("20, 26, 35, 36, 44 change nothing", print(x), before);
        DUE.is("and take the tape", x.count(4), 0);
    }

    private static void change(UncleAges x) {
        for (int p = 0; p < 6; p++) {
            x.person(p, 2 + p, 3 + p);
            x.dies(p, 40 + p);
            for (int child = 0; child < 6; child++) {
                x.parent(p, child, child == 2 ? 9 : -1);
            }
        }
        x.years(11);
        x.form(0, 1);
        for (int k = 0; k < 10; k++) {
            Due.remark(x, k, "f~" + (k + 2));
        }
        for (int k = 0; k < 6; k++) {
            Due.form(x, k, "f*9+a*4-b*5+c*6-d*7+e*8");
        }
        x.feed(0, 0, 0, 0, 0);
        x.feed(0, 0, 0, 0, 0);
    }

    /** KEPT: PEOPLE, REMARKS, FORMS, parents, THE YEAR (not the tape); UNDONE: as they were KEPT last. */
    private static void kept() {
        UncleAges x = told();
        String before = print(x);
        DUE.is("42: REMARKS", x.keep(), 10);
        DUE.is("42: keeping changes nothing", print(x), before);
        DUE.is("42: the tape stays", x.count(4), TAPE);
        for (int time = 0; time < 3; time++) {
            change(x);
            DUE.is("43: it was another one", print(x).equals(before), false);
            DUE.is("43: undone", x.undo(), true);
            DUE.is("43: as it was KEPT", print(x), before);
            DUE.is("43: the tape is as it is", x.count(4), 40);
        }
        for (int k = 0; k < 10; k++) {
            x.takeBack(k);
        }
        x.undo();
        DUE.is("43: what was taken back is told", print(x), before);
        x.undo();
        DUE.is("43: undone twice", print(x), before);
    }

    private static void keptAgain() {
        UncleAges x = new UncleAges();
        String nothing = print(x);
        DUE.is("42: no REMARKS", x.keep(), 0);
        x.person(0, 1, 1);
        x.person(1, 1, 1);
        x.parent(0, 1, 7);
        Due.remark(x, 0, "a=1");
        Due.form(x, 5, "a");
        String before = print(x);
        DUE.is("43: to nothing", x.undo(), true);
        DUE.is("43: as a new one", print(x), nothing);
        x.person(0, 1, 1);
        x.person(1, 1, 1);
        DUE.is("43: parents are undone, too", x.tree(0, 0), 1);
        x.parent(0, 1, 7);
        Due.remark(x, 0, "a=1");
        Due.form(x, 5, "a");
        DUE.is("43: told again", print(x), before);
        DUE.is("42: one REMARK", x.keep(), 1);
        x.years(3);
        x.undo();
        DUE.is("43: as KEPT last", print(x), before);
    }
}
