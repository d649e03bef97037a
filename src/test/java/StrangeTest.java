import java.lang.reflect.Method;
import java.lang.reflect.Modifier;
import java.util.ArrayList;
import java.util.Arrays;
import java.util.Comparator;
import java.util.List;
import java.util.Random;

/**
 * Every public call with numbers of every size, in many states: nothing is thrown, and a call that
 * is refused changes nothing that can be asked by count (the tape only where it is told).
 */
public final class StrangeTest {
    private static final int[] STRANGE = {Integer.MIN_VALUE, Integer.MIN_VALUE + 1, -1000000, -1024, -100, -99, -2, -1, 0,
            1, 2, 3, 5, 6, 7, 9, 10, 15, 16, 19, 20, 21, 31, 32, 33, 59, 60, 61, 63, 64, 98, 99, 100, 101, 199, 200, 255,
            256, 400, 401, 1023, 1024, 65535, 1000000, Integer.MAX_VALUE - 1, Integer.MAX_VALUE};
    private static final Due DUE = new Due("strange");

    public static void main(String[] args) {
        List<Method> calls = new ArrayList<>();
        for (Method call : UncleAges.class.getDeclaredMethods()) {
            if (Modifier.isPublic(call.getModifiers())) {
                calls.add(call);
            }
        }
        calls.sort(Comparator.comparing(Method::getName));
        DUE.is("the public calls", calls.size(), 44);
        for (int state = 0; state < 8; state++) {
            for (Method call : calls) {
                Random random = new Random(state * 100L + calls.indexOf(call));
                UncleAges x = inState(state);
                for (int i = 0; i < 100; i++) {
                    go(x, call, random);
                }
            }
        }
        mixed(calls);
        DUE.end();
    }

    private static UncleAges inState(int state) {
        UncleAges x = new UncleAges();
        for (int p = 0; p < 6 && state > 0; p++) {
            x.person(p, state == 2 ? 0 : 3 * p, state == 2 ? 99 : 3 * p + state % 3);
        }
        if (state > 2) {
            Due.remark(x, 0, "a+b~3");
            Due.remark(x, 1, "0-128*128*128*128*8~1");
            Due.remark(x, 9, state == 3 ? "1=2" : "c<d@(e:f+1)");
            Due.form(x, 0, "128*128*128*128*8*a");
            Due.form(x, 5, "999*(a-b)");
        }
        if (state > 4) {
            x.parent(0, 1, 99);
            x.parent(1, 0, 99);
            x.dies(2, 0);
            x.years(99);
            x.keep();
        }
        for (int i = 0; i < 13 && state > 5; i++) {
            x.feed(0x412b422d, state == 6 ? -1 : 0x05080303, 0x01020304, 0, 0);
        }
        return x;
    }

    private static void mixed(List<Method> calls) {
        for (int run = 0; run < 300; run++) {
            Random random = new Random(run);
            UncleAges x = inState(run % 8);
            for (int i = 0; i < 400; i++) {
                go(x, calls.get(random.nextInt(calls.size())), random);
            }
        }
    }

    private static void go(UncleAges x, Method call, Random random) {
        Object[] with = new Object[call.getParameterCount()];
        for (int i = 0; i < with.length; i++) {
            with[i] = random.nextInt(20) == 0 ? random.nextInt()
                    : random.nextInt(2) == 0 ? random.nextInt(8) : STRANGE[random.nextInt(STRANGE.length)];
        }
        int[] before = counts(x);
        Object answer;
        try {
            answer = call.invoke(x, with);
        } catch (ReflectiveOperationException thrown) {
            DUE.is(call.getName() + Arrays.toString(with) + " threw " + thrown.getCause(), 1, 0);
            return;
        }
        // CHECK answers -1 where all is right, and then has taken the tape.
        boolean isRefused = answer.equals(false) || answer.equals(-1) && !call.getName().equals("check");
        if (isRefused) {
            DUE.is(call.getName() + Arrays.toString(with) + " is refused and changes nothing",
                    Arrays.equals(before, counts(x)), true);
        }
    }

    private static int[] counts(UncleAges x) {
        int[] counts = new int[40];
        for (int what = 0; what < 40; what++) {
            counts[what] = x.count(what);
        }
        return counts;
    }
}
