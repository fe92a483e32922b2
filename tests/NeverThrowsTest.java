import java.lang.reflect.InvocationTargetException;
import java.lang.reflect.Method;
import java.lang.reflect.Modifier;

/** Whatever is asked in whatever state, a call answers; and a refused call changes nothing else. */
public final class NeverThrowsTest {
    private static final int[] NUMBERS = {Integer.MIN_VALUE, -1000, -1, 0, 1, 2, 3, 5, 7, 8, 9, 16, 17, 49, 61, 73,
        100, 256, 1000, Integer.MAX_VALUE};
    private static final Due due = new Due("NeverThrowsTest");

    public static void main(String[] args) throws Exception {
        for (int state = 0; state < 4; state++) {
            for (Method method : RailsOfIce.class.getDeclaredMethods()) {
                if (Modifier.isPublic(method.getModifiers())) {
                    callWithAll(state, method);
                }
            }
        }
        due.end();
    }

    private static RailsOfIce make(int state) {
        RailsOfIce x = new RailsOfIce();
        if (state == 1) {
            Worlds.line(x, "n16;y154799;y001233;t4091;t6093;t0102;t2001;t3052;h30;w248;c99;");
        } else if (state == 2) {
            Worlds.line(x, "n02;c09;t4091;t0293;t0103;h72;t0131;");
            Worlds.row(x, 1, 99, 3);
            x.image();
        } else if (state == 3) {
            Worlds.line(x, "n05;c90;y044000;y013900;t5011;t5011;t5011;h03;");
            x.frost(0, 60);
            x.hours(1);
            x.feed('n');
        }
        return x;
    }

    private static void callWithAll(int state, Method method) throws Exception {
        int count = method.getParameterCount();
        int all = 1;
        for (int i = 0; i < count; i++) {
            all *= NUMBERS.length;
        }
        RailsOfIce x = make(state);
        for (int choice = 0; choice < all; choice++) {
            if (choice % 100 == 99) {
                x = make(state);
            }
            Object[] args = new Object[count];
            int rest = choice;
            for (int i = 0; i < count; i++) {
                args[i] = NUMBERS[rest % NUMBERS.length];
                rest /= NUMBERS.length;
            }
            String call = method.getName() + java.util.Arrays.toString(args) + " in state " + state;
            long before = fingerprint(x);
            int refused = refusals(x);
            try {
                long answer = ((Number) method.invoke(x, args)).longValue();
                boolean told = refusals(x) > refused;
                due.holds(call + " is counted once or not at all", refusals(x) - refused <= 1);
                if (told) {
                    due.is(call + " was refused and changed", before, fingerprint(x));
                    due.holds(call + " answered " + answer, answer >= -6 && answer <= -1 && answer != -5
                            || answer == 4000000000000000001L || answer == 4000000000000000002L);
                }
            } catch (InvocationTargetException thrown) {
                due.is(call + " threw " + thrown.getCause(), 0, 1);
            }
        }
    }

    private static int refusals(RailsOfIce x) {
        int all = 0;
        for (int what = 11; what <= 16; what++) {
            all += x.count(what);
        }
        return all;
    }

    private static long fingerprint(RailsOfIce x) {
        long print = 0;
        for (int what = 0; what <= 8; what++) {
            print = 31 * print + x.count(what);
        }
        for (int yard = 0; yard < x.count(0); yard++) {
            for (int what = 0; what <= 5; what++) {
                print = 31 * print + x.yard(yard, what);
            }
        }
        for (int train = 0; train < x.count(1); train++) {
            for (int what = 0; what <= 5; what++) {
                print = 31 * print + x.told(train, what);
            }
        }
        return print;
    }
}
