import java.util.List;
import java.util.Set;
import java.util.TreeSet;
import java.util.function.Function;
import java.util.function.Supplier;
import java.util.function.ToLongFunction;

/**
 * What the tests of boundaries share. Each test tells its promise and the sentence of DOC.md that names the boundary;
 * both are printed with an answer that isn't as due.
 */
abstract class Boundary {
    // by their numbers: the class's own constants are looked at by a test, too
    static final int BAD = -1, NOT = -2, FULL = -3, STATE = -5;
    static final int NOTHING = -11, UNLIKE = -12, NO_PLACE = -13, NO_SIZE = -14;
    static final int MIN = Integer.MIN_VALUE, MAX = Integer.MAX_VALUE;
    static final long NO = Long.MIN_VALUE;

    static final int COST = 0, SENSE = 1, SORT = 2, LONG = 3, SLIP = 4, PURSE = 5, FEELS = 6, NIGHT = 7, ERR = 8, FORM = 9;
    static final int[] LEAST = {1, 0, 0, 1, 0, 0, 0, 0, 0, 1};

    private static final Set<Integer> PROMISES = new TreeSet<>();
    private static final Set<String> TOLD = new TreeSet<>();
    private static final Set<String> WRONG = new TreeSet<>();
    private static String now = "no test";
    private static int asked;

    /** One sentence of a promise, with a test of its own. */
    static void test(int promise, String sentence, Runnable test) {
        now = "promise " + promise + ": " + sentence;
        PROMISES.add(promise);
        if (!TOLD.add(now)) {
            WRONG.add("told twice: " + now);
        }
        int before = asked;
        test.run();
        if (asked == before) {
            WRONG.add("nothing is asked for: " + now);
        }
    }

    static void due(long want, long got) {
        asked++;
        if (want != got) {
            WRONG.add(now + " (" + line() + "): answered " + got + ", due is " + want);
        }
    }

    static void same(String want, String got) {
        asked++;
        if (!want.equals(got)) {
            WRONG.add(now + " (" + line() + "): " + got + " instead of " + want);
        }
    }

    private static String line() {
        for (StackTraceElement at : new Throwable().getStackTrace()) {
            if (!at.getClassName().startsWith("Boundary")) {
                return at.getClassName() + ", line " + at.getLineNumber();
            }
        }
        return "";
    }

    /** Ends with exit code 1, if something wasn't as due, or one of these promises has no test. */
    static void end(int first, int last) {
        for (int promise = first; promise <= last; promise++) {
            if (!PROMISES.contains(promise)) {
                WRONG.add("promise " + promise + ": no boundary has a test");
            }
        }
        for (String wrong : WRONG) {
            System.out.println(wrong);
        }
        System.out.println(TOLD.size() + " sentences, " + asked + " answers asked for, " + WRONG.size() + " wrong");
        if (!WRONG.isEmpty()) {
            System.exit(1);
        }
    }

    // ---- what is made

    static TelegramFeelings fresh() {
        return new TelegramFeelings();
    }

    static TelegramFeelings row(TelegramFeelings x, int shelf, int sort, long... v) {
        x.row(shelf, sort, v.length);
        for (int i = 0; i < v.length; i++) {
            x.put(shelf, i, v[i]);
        }
        return x;
    }

    static void tape(TelegramFeelings x, String text) {
        for (int i = 0; i < text.length(); i++) {
            x.feed(text.charAt(i));
        }
    }

    static int law(TelegramFeelings x, String text) {
        tape(x, text);
        return x.law();
    }

    static String times(String one, int n) {
        StringBuilder b = new StringBuilder();
        for (int i = 0; i < n; i++) {
            b.append(one);
        }
        return b.toString();
    }

    /** WORDS by COST, SENSE, SORT, one behind the other. */
    static TelegramFeelings words(int... threes) {
        TelegramFeelings x = fresh();
        for (int i = 0; i < threes.length / 3; i++) {
            x.word(threes[3 * i], threes[3 * i + 1]);
            if (threes[3 * i + 2] != 1) {
                x.mend(i, SORT, threes[3 * i + 2]);
            }
        }
        return x;
    }

    /** who (2, 1), what (3, 2) heard as word 2, what (5, 6) heard as word 1, how (1, 8), who (4, 16). */
    static TelegramFeelings five() {
        TelegramFeelings x = words(2, 1, 0, 3, 2, 1, 5, 6, 1, 1, 8, 2, 4, 16, 0);
        int[] letters = {5, 4, 6, 2, 3};
        for (int i = 0; i < 5; i++) {
            x.mend(i, LONG, letters[i]);
        }
        x.mend(1, SLIP, 2);
        x.mend(2, SLIP, 1);
        return x;
    }

    static TelegramFeelings manyWords() {
        TelegramFeelings x = fresh();
        for (int i = 0; i < 12; i++) {
            x.word(1 + i % 9, i);
        }
        return x;
    }

    static TelegramFeelings manyPeople() {
        TelegramFeelings x = fresh();
        for (int i = 0; i < 6; i++) {
            x.person(100 + i);
        }
        return x;
    }

    static TelegramFeelings manyBodies() {
        TelegramFeelings x = fresh();
        for (int i = 0; i < 50; i++) {
            x.body(i % 8);
        }
        return x;
    }

    /** 120 bytes on THE TAPE: a TEXT by which a PRICE is 10 more than COST. */
    static TelegramFeelings longTape() {
        TelegramFeelings x = fresh();
        x.word(7, 1);
        tape(x, "10" + times("+0", 58) + "+c");
        return x;
    }

    /**
     * An office of which nothing is as at first: five() with two people, a law, bytes on THE TAPE, a change undone,
     * wires, refused ones, an image, bodies, a trace; on the shelves bytes 0 1 3, shorts, a BODY, nothing, longs, none.
     */
    static TelegramFeelings rich() {
        return rich(true, true);
    }

    /** rich(), but perhaps without a TRACE, or with an empty TAPE. */
    static TelegramFeelings rich(boolean acted, boolean taped) {
        TelegramFeelings x = five();
        x.person(40);
        x.person(9);
        x.mend(0, FEELS, 15);
        x.mend(1, FEELS, 32);
        law(x, "c+s*d");
        row(x, 0, 0, 0, 1, 3);
        row(x, 1, 1, 5, 10, 15, 20);
        x.body(5);
        x.body(7);
        x.keep(2, 1);
        row(x, 4, 3, -7, Long.MAX_VALUE);
        row(x, 5, 4);
        x.send(0, 1);
        x.image();
        x.night();
        x.send(0, 1);
        x.send(0, 10);
        x.send(0, 10);
        x.mend(3, COST, 2);
        x.mend(3, COST, 3);
        x.mend(0, FORM, 9);
        x.undo();
        if (acted) {
            x.act(0, 3, 5);
        }
        tape(x, taped ? "1+" : "");
        return x;
    }

    // ---- what all calls that take a TELEGRAM refuse

    interface ShelfCall {
        long answer(TelegramFeelings x, int shelf);
    }

    /** -1 and 6, nothing, all that is no ROW of bytes; the calls that answer a long have one answer for all. */
    static void telegramIsThere(int promise, boolean isLong, ShelfCall call) {
        test(promise, "SHELVES 0 .. 5: -1 and 6 are BAD, and nothing changes", () -> {
            for (int shelf : new int[] {-1, 6, MIN, MAX}) {
                refused(Boundary::rich, isLong ? NO : BAD, x -> call.answer(x, shelf));
            }
        });
        test(promise, "SHELVES 0 .. 5: 0 and 5 are allowed", () -> {
            due(1, call.answer(row(rich(), 0, 0, 0, 1), 0) >= 0 ? 1 : 0);
            due(1, call.answer(row(rich(), 5, 0, 0, 1), 5) >= 0 ? 1 : 0);
        });
        test(promise, "-11 nothing is there, and nothing changes", () -> {
            refused(Boundary::rich, isLong ? NO : NOTHING, x -> call.answer(x, 3));
            refused(() -> withNothing(0), isLong ? NO : NOTHING, x -> call.answer(x, 0));
        });
        test(promise, "-12 (no ROW of bytes), and nothing changes", () -> {
            for (int shelf : new int[] {1, 2, 4, 5}) {
                refused(Boundary::rich, isLong ? NO : UNLIKE, x -> call.answer(x, shelf));
            }
            for (int i = 1; i < 5; i++) {
                int sort = i;
                due(isLong ? NO : UNLIKE, call.answer(row(rich(), 3, sort), 3));
                due(isLong ? NO : UNLIKE, call.answer(row(rich(), 3, sort, 0, 1), 3));
            }
        });
    }

    /** A SHELF of rich() that holds nothing any more. */
    private static TelegramFeelings withNothing(int shelf) {
        TelegramFeelings x = rich();
        x.keep(shelf, -1);
        return x;
    }

    // ---- everything as it was

    private static final List<Function<TelegramFeelings, String>> VIEWS = List.of(Boundary::numbers, Boundary::shelves012,
            Boundary::shelves345, Boundary::changes, Boundary::prices, Boundary::image, Boundary::tapeAndLaw, Boundary::next);

    /**
     * The answer is due, and all that may be asked for behind it is answered as if the call had not been made. A fresh
     * object is made for each view: a view may change it, and no object is used for more than 512 calls.
     */
    static void refused(Supplier<TelegramFeelings> made, long want, ToLongFunction<TelegramFeelings> call) {
        for (Function<TelegramFeelings, String> view : VIEWS) {
            TelegramFeelings x = made.get();
            due(want, call.applyAsLong(x));
            same(view.apply(made.get()), view.apply(x));
        }
    }

    /** All that may be asked for is answered alike. */
    static void alike(Supplier<TelegramFeelings> one, Supplier<TelegramFeelings> other) {
        for (Function<TelegramFeelings, String> view : VIEWS) {
            same(view.apply(one.get()), view.apply(other.get()));
        }
    }

    /** As refused(), but for what LED tells of refused ones: one more. */
    static void refusedAndLed(Supplier<TelegramFeelings> made, long want, ToLongFunction<TelegramFeelings> call) {
        TelegramFeelings x = made.get();
        int before = x.led(3);
        due(want, call.applyAsLong(x));
        due(before + 1, x.led(3));
        for (Function<TelegramFeelings, String> view : VIEWS) {
            x = made.get();
            call.applyAsLong(x);
            same(view.apply(made.get()).replaceAll("refused \\d+", ""), view.apply(x).replaceAll("refused \\d+", ""));
        }
    }

    private static String numbers(TelegramFeelings x) {
        StringBuilder b = new StringBuilder();
        for (int what = 0; what < 10; what++) {
            for (int number = 0; number < 12; number++) {
                b.append(x.of(number, what)).append(' ');
            }
        }
        for (int what = 0; what < 6; what++) {
            b.append(x.count(what)).append(' ');
        }
        for (int i = 0; i < 25; i++) {
            b.append(x.trace(i)).append(' ');
        }
        return led(x, b).toString();
    }

    private static StringBuilder led(TelegramFeelings x, StringBuilder b) {
        for (int what = 0; what < 5; what++) {
            b.append(what == 3 ? "refused " : "led ").append(x.led(what)).append(' ');
        }
        return b;
    }

    private static String shelves012(TelegramFeelings x) {
        return shelf(x, 0) + shelf(x, 1) + shelf(x, 2);
    }

    private static String shelves345(TelegramFeelings x) {
        return shelf(x, 3) + shelf(x, 4) + shelf(x, 5);
    }

    static String shelf(TelegramFeelings x, int shelf) {
        StringBuilder b = new StringBuilder();
        b.append(x.taken(shelf, 0)).append(' ').append(x.wire(shelf, 3)).append(' ').append(x.put(shelf, 60, 0)).append(':');
        for (int i = 0; i < 60; i++) {
            b.append(x.element(shelf, i)).append(' ');
        }
        return b.append('\n').toString();
    }

    private static String changes(TelegramFeelings x) {
        StringBuilder b = new StringBuilder();
        int answer = 0;
        for (int i = 0; i < 41 && answer >= 0; i++) {
            answer = x.redo();
            b.append(answer).append(' ');
        }
        answer = 0;
        for (int i = 0; i < 41 && answer >= 0; i++) {
            answer = x.undo();
            b.append(answer).append(' ');
        }
        for (int what = 0; what < 10; what++) {
            for (int number = 0; number < 12; number++) {
                b.append(x.of(number, what)).append(' ');
            }
        }
        return b.toString();
    }

    private static String prices(TelegramFeelings x) {
        StringBuilder b = new StringBuilder();
        for (int word = 0; word < 12; word++) {
            b.append(x.price(word, 300)).append(' ').append(x.price(word, 105)).append(' ');
        }
        for (int yn = 0; yn < 4096; yn += 321) {
            b.append(x.say(yn, -1)).append(' ').append(x.say(yn, 1)).append(' ');
        }
        for (int v = 0; v < 60; v += 4) {
            b.append(x.allFor(v, 1)).append(' ');
        }
        for (int one = 0; one < 6; one++) {
            b.append(x.tooDear(one)).append(' ').append(x.club(1 << one, 5, one)).append(' ').append(x.year(1, one, 0)).append(' ');
        }
        b.append(x.lacks(0)).append(' ').append(x.lacks(1)).append(' ');
        b.append(x.drawn(5, 520, 0)).append(' ').append(x.drawn(5, 520, 1)).append(' ');
        b.append(x.came(0)).append(' ').append(x.safe(0, 0)).append(' ').append(x.unsigned(0, 0));
        return b.toString();
    }

    private static String image(TelegramFeelings x) {
        StringBuilder b = new StringBuilder();
        b.append(x.back()).append(' ').append(x.of(0, NIGHT)).append(' ');
        for (int one = 0; one < 6; one++) {
            b.append(x.of(one, PURSE)).append(' ').append(x.of(one, FEELS)).append(' ');
        }
        return led(x, b).toString();
    }

    private static String tapeAndLaw(TelegramFeelings x) {
        StringBuilder b = new StringBuilder();
        b.append(x.count(2)).append(' ').append(x.price(0, 300)).append(' ').append(x.feed('c')).append(' ').append(x.law());
        for (int word = 0; word < 12; word++) {
            b.append(' ').append(x.price(word, 300));
        }
        return b.toString();
    }

    private static String next(TelegramFeelings x) {
        StringBuilder b = new StringBuilder();
        b.append(x.word(1, 1)).append(' ').append(x.person(1)).append(' ').append(x.body(1)).append(' ');
        b.append(x.act(0, 3, 7)).append(' ').append(x.image()).append(' ').append(x.night());
        return b.toString();
    }
}
