import java.lang.reflect.InvocationTargetException;
import java.lang.reflect.Method;
import java.lang.reflect.Modifier;
import java.util.ArrayList;
import java.util.Comparator;
import java.util.List;
import java.util.Random;

/** 512 calls with whatever arguments, on empty and on full offices: nothing is thrown, and the same calls answer the same. */
public final class LongRunsTest {
    private static final int[] INTS = {0, 1, 2, 3, 5, 6, 7, 8, 11, 12, 13, 20, 40, 59, 60, 61, 63, 64, 99, 100, 101,
        119, 120, 255, 256, 300, 311, 312, 399, 400, 999, 1000, 3020, 4032, 4095, 4096, -1, -2, -3, -10, -11, -100,
        Integer.MAX_VALUE, Integer.MAX_VALUE - 1, Integer.MAX_VALUE / 3, Integer.MIN_VALUE, Integer.MIN_VALUE + 1};

    private static final List<Method> METHODS = new ArrayList<>();

    private static String times(String one, int n) {
        StringBuilder b = new StringBuilder();
        for (int i = 0; i < n; i++) {
            b.append(one);
        }
        return b.toString();
    }

    // all of 120 bytes, and TEXTS
    private static final String[] LONG_LAWS = {
        times("c+", 59) + "10",
        times("!", 6) + "c*9999" + times("*9999", 21) + "/-1",
        times("(", 6) + "10" + times(")", 6) + times("|p", 53),
        times("0?c;", 29) + "1?99",
        times("(", 6) + "1|1&1<1+1*1111" + times(")", 6) + times("-l", 47),
        times("1|1&1<1+1*(", 6) + "10" + times(")", 6) + times("+c", 23),
        times("-1%0+", 23) + "-w/-1",
    };

    private static Object number(Random r, boolean isLong) {
        long v = r.nextInt(3) == 0 ? INTS[r.nextInt(INTS.length)] : r.nextInt(2) == 0 ? r.nextInt(13) : r.nextInt();
        if (isLong) {
            return r.nextInt(4) == 0 ? r.nextLong() : v;
        }
        return (int) v;
    }

    private static int tell(TelegramFeelings x, String text, StringBuilder answers) {
        int calls = 0;
        for (int i = 0; i < Math.min(120, text.length()); i++) {
            answers.append(x.feed(text.charAt(i))).append(' ');
            calls++;
        }
        answers.append(x.law()).append('\n');
        return calls + 1;
    }

    /** 12 WORDS, 6 people, a long law, full rows of telegrams. */
    private static int fill(TelegramFeelings x, Random r, StringBuilder answers) {
        int calls = tell(x, LONG_LAWS[r.nextInt(LONG_LAWS.length)], answers);
        x.row(0, 0, 36);
        for (int i = 0; i < 36; i++) {
            x.put(0, i, i % 3 == 0 ? 1 + r.nextInt(9) : i % 3 == 1 ? r.nextInt(64) : i < 3 ? 0 : r.nextInt(3));
        }
        x.words(0, 0, 12);
        calls += 38;
        for (int i = 0; i < 6; i++) {
            x.person(r.nextInt(1000));
            x.mend(i, 6, 63);
            x.mend(i, 4, r.nextInt(12));
            calls += 3;
        }
        for (int shelf = 0; shelf < 3; shelf++) {
            x.row(shelf, 0, 12);
            for (int i = 1; i < 12; i++) {
                x.put(shelf, i, r.nextInt(12));
            }
            calls += 12;
        }
        return calls;
    }

    private static String run(long seed) throws Exception {
        Random r = new Random(seed);
        TelegramFeelings x = new TelegramFeelings();
        StringBuilder answers = new StringBuilder();
        int calls = r.nextInt(3) > 0 ? fill(x, r, answers) : 0;
        for (; calls < 512; calls++) {
            Method m = METHODS.get(r.nextInt(METHODS.size()));
            Class<?>[] types = m.getParameterTypes();
            Object[] args = new Object[types.length];
            for (int i = 0; i < args.length; i++) {
                args[i] = number(r, types[i] == long.class);
            }
            try {
                answers.append(m.getName()).append(' ').append(m.invoke(x, args)).append('\n');
            } catch (InvocationTargetException e) {
                throw new IllegalStateException("seed " + seed + ", " + m.getName() + java.util.Arrays.toString(args),
                        e.getCause());
            }
        }
        return answers.toString();
    }

    /** The dearest calls of one kind, each on what was just told anew. */
    private static long dearest() {
        long sum = 0;
        for (int law = 0; law < LONG_LAWS.length; law++) {
            TelegramFeelings x = new TelegramFeelings();
            int calls = fill(x, new Random(law), new StringBuilder());
            while (calls < 510) {
                sum += x.mend(calls % 12, 0, 1 + calls % 9);
                sum += x.say(calls * 7 % 4096, -1);
                sum += x.came(calls % 3);
                calls += 3;
            }
        }
        return sum;
    }

    public static void main(String[] args) throws Exception {
        for (Method m : TelegramFeelings.class.getDeclaredMethods()) {
            if (Modifier.isPublic(m.getModifiers())) {
                METHODS.add(m);
            }
        }
        METHODS.sort(Comparator.comparing(Method::getName));
        int wrong = 0;
        for (String law : LONG_LAWS) {
            TelegramFeelings x = new TelegramFeelings();
            if (tell(x, law, new StringBuilder()) != 121) {
                wrong++;
                System.out.println(law + " is not 120 bytes");
            }
            x = new TelegramFeelings();
            for (int i = 0; i < law.length(); i++) {
                x.feed(law.charAt(i));
            }
            int answer = x.law();
            if (answer != 1) {
                wrong++;
                System.out.println(law + " is no TEXT: " + answer);
            }
        }
        for (long seed = 0; seed < 2000; seed++) {
            if (!run(seed).equals(run(seed))) {
                wrong++;
                System.out.println("seed " + seed + " answers otherwise the second time");
            }
        }
        System.out.println("2000 runs, " + wrong + " wrong; " + dearest());
        if (wrong != 0) {
            System.exit(1);
        }
    }
}
