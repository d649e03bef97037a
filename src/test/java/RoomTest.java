import java.lang.management.ManagementFactory;

/**
 * All calls of one run live in one room, so an object makes its rows once: 512 of its dearest calls
 * may make next to nothing.
 */
public final class RoomTest {
    private static final com.sun.management.ThreadMXBean THREADS =
            (com.sun.management.ThreadMXBean) ManagementFactory.getThreadMXBean();
    private static final Due DUE = new Due("room");

    public static void main(String[] args) {
        new UncleAges();
        made();
        long before = made();
        UncleAges x = new UncleAges();
        few("an object itself", before, 300000);
        x.person(0, 0, 99);
        x.person(1, 0, 99);
        x.person(2, 0, 19);
        for (int k = 0; k < 10; k++) {
            Due.remark(x, k, "a@(b:a)+(((((c-" + k + ")))))*2*(3+4)-999*7+7~" + (k + 1));
        }
        Due.form(x, 0, "a+b*99");
        DUE.is("the dearest number of ROWS", x.rows(), 200000);
        Due.remark(x, 5, "c=1");
        Due.remark(x, 6, "b<20");
        for (int round = 0; round < 2; round++) {
            before = made();
            dearCalls(x);
            few("ROWS", before, 20000);
            before = made();
            fewRows(x);
            few("few ROWS", before, 20000);
            before = made();
            tapeCalls(x);
            few("the tape", before, 20000);
        }
        DUE.end();
    }

    private static long made() {
        return THREADS.getThreadAllocatedBytes(Thread.currentThread().getId());
    }

    private static void few(String what, long before, long most) {
        long made = made() - before;
        DUE.is(what + " made " + made + " bytes, more than " + most, made > most, false);
    }

    private static void dearCalls(UncleAges x) {
        for (int i = 0; i < 20; i++) {
            x.fit(1023, 100);
            x.fit(1023, 0);
            x.ageIs(1, 0, 0);
            x.offByAYear(1023, 0);
            x.apart(1, 0, 1, 0);
            x.clash(1023, 0);
            x.fewest(0, 0);
            x.middle(0, 0);
            x.between(0, 0, 1);
        }
    }

    private static void fewRows(UncleAges x) {
        DUE.is("2000 FIT", x.fit(96, 100), 2000);
        for (int i = 0; i < 60; i++) {
            x.known(96, 0);
            x.often(96, 0, 0);
            x.shortest(96, 0);
            x.feed(0x412d412d, 0x412d412d, 0x412d412d, 0x412d412d, 0x412d412d);
            x.sayings(96, 20, 100);
            x.feed(0x412d412d, 0x412d412d, 0x412d412d, 0x412d412d, 0x412d412d);
            x.remark(0, 20);
        }
    }

    private static void tapeCalls(UncleAges x) {
        for (int i = 0; i < 100; i++) {
            x.feed(0x05060708, 0x09010203, 0, 0, 0);
            x.whoIsWho(3, 7, 0, 100);
            x.feed(0x05060708, 0x09010203, 0, 0, 0);
            x.tyres(8, 3);
            x.feed(0x14130d10, 0x05030000, 0, 0, 0);
            x.butts(20);
            x.howOld(6, 300, 0, 99);
            x.isTrue(96, 5, 0);
            x.squares(0, 100);
            x.tree(0, 1);
            x.keep();
            x.undo();
        }
    }
}
