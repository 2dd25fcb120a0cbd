import java.lang.reflect.Constructor;
import java.lang.reflect.Field;
import java.lang.reflect.Method;
import java.lang.reflect.Modifier;
import java.util.Set;
import java.util.TreeSet;

/** For each promise of DOC.md: ordinary inputs, the edges that it names, and wrong inputs. */
public final class PromisesTest {
    private static final long NO = Long.MIN_VALUE;
    private static int wrong;
    private static int promise;
    private static int asked;

    private static void due(long want, long got) {
        asked++;
        if (want != got) {
            wrong++;
            StackTraceElement at = new Throwable().getStackTrace()[1];
            System.out.println("promise " + promise + ", line " + at.getLineNumber()
                    + ": answered " + got + ", due is " + want);
        }
    }

    private static void same(String want, String got) {
        asked++;
        if (!want.equals(got)) {
            wrong++;
            StackTraceElement at = new Throwable().getStackTrace()[1];
            System.out.println("promise " + promise + ", line " + at.getLineNumber()
                    + ": " + got + " instead of " + want);
        }
    }

    // ---- what the tests are made with

    private static TelegramFeelings fresh() {
        return new TelegramFeelings();
    }

    /** All that can be asked for without changing it; no more calls than it must be: an object is good for 512. */
    private static String all(TelegramFeelings x) {
        StringBuilder b = new StringBuilder();
        for (int what = 0; what < 10; what++) {
            int many = what < 5 ? x.count(0) : what < 7 ? x.count(1) : 1;
            for (int number = 0; number < many; number++) {
                b.append(x.of(number, what)).append(' ');
            }
        }
        for (int what = 0; what < 6; what++) {
            b.append(x.count(what)).append(' ');
        }
        for (int what = 0; what < 5; what++) {
            b.append(x.led(what)).append(' ');
        }
        for (int i = 0; i < x.count(5); i++) {
            b.append(x.trace(i)).append(' ');
        }
        for (int shelf = 0; shelf < 6; shelf++) {
            b.append(x.taken(shelf, 0)).append('/');
            for (int i = 0; i < 60 && x.element(shelf, i) != NO; i++) {
                b.append(x.element(shelf, i)).append(' ');
            }
        }
        b.append(x.price(0, 300)).append(' ').append(x.price(1, 105));
        return b.toString();
    }

    private static void tape(TelegramFeelings x, String text) {
        for (int i = 0; i < text.length(); i++) {
            x.feed(text.charAt(i));
        }
    }

    private static int law(TelegramFeelings x, String text) {
        tape(x, text);
        return x.law();
    }

    private static void row(TelegramFeelings x, int shelf, int sort, long... v) {
        x.row(shelf, sort, v.length);
        for (int i = 0; i < v.length; i++) {
            x.put(shelf, i, v[i]);
        }
    }

    /** WORDS by COST, SENSE, SORT, LONG, SLIP (-1: itself). */
    private static TelegramFeelings office(int[]... words) {
        TelegramFeelings x = fresh();
        for (int[] w : words) {
            x.word(w[0], w[1]);
        }
        for (int i = 0; i < words.length; i++) {
            x.mend(i, 2, words[i][2]);
            x.mend(i, 3, words[i][3]);
            if (words[i][4] >= 0) {
                x.mend(i, 4, words[i][4]);
            }
        }
        return x;
    }

    /** who (2, 1), what (3, 2) heard as word 2, what (5, 6) heard as word 1, how (1, 8), who (4, 16). */
    private static TelegramFeelings five() {
        return office(new int[] {2, 1, 0, 5, -1}, new int[] {3, 2, 1, 4, 2}, new int[] {5, 6, 1, 6, 1},
                new int[] {1, 8, 2, 2, -1}, new int[] {4, 16, 0, 3, -1});
    }

    // ---- words, people

    private static void promise1() throws Exception {
        TelegramFeelings x = fresh();
        for (int what = 0; what < 6; what++) {
            due(0, x.count(what));
        }
        for (int what = 0; what < 5; what++) {
            due(0, x.led(what));
        }
        due(-1, x.of(0, 0));
        due(-1, x.of(0, 5));
        due(0, x.of(0, 7));
        due(1, x.of(0, 8));
        due(10, x.of(0, 9));
        due(NO, x.element(0, 0));
        due(-11, x.wire(5, 0));
        due(-5, x.undo());
        due(-5, x.redo());
        due(-5, x.back());
        due(-1, x.trace(0));
        // the face, and nothing beside it
        due(-1, TelegramFeelings.BAD);
        due(-2, TelegramFeelings.NOT);
        due(-3, TelegramFeelings.FULL);
        due(-5, TelegramFeelings.STATE);
        due(-2000000000, TelegramFeelings.VOID);
        Class<?> c = TelegramFeelings.class;
        due(1, Modifier.isFinal(c.getModifiers()) && Modifier.isPublic(c.getModifiers()) ? 1 : 0);
        Constructor<?>[] constructors = c.getDeclaredConstructors();
        due(1, constructors.length);
        due(1, Modifier.isPublic(constructors[0].getModifiers()) ? 1 : 0);
        Set<String> open = new TreeSet<>();
        for (Method m : c.getDeclaredMethods()) {
            if (!Modifier.isPrivate(m.getModifiers())) {
                open.add(m.getName());
            }
        }
        same("[act, allFor, back, body, came, cameAs, certain, club, count, drawn, element, feed, image, keep,"
                + " lacks, law, led, meant, mend, night, of, person, price, put, redo, row, safe, say, send, shift,"
                + " taken, tooDear, trace, undo, unsigned, wire, word, words, year]", open.toString());
        open.clear();
        for (Field f : c.getDeclaredFields()) {
            if (!Modifier.isPrivate(f.getModifiers())) {
                open.add(f.getName());
            }
        }
        same("[BAD, FULL, NOT, STATE, VOID]", open.toString());
        // one object knows nothing of another
        x.word(1, 1);
        x.night();
        due(0, fresh().count(0));
        due(0, fresh().of(0, 7));
    }

    private static void promise2() {
        TelegramFeelings x = fresh();
        String empty = all(x);
        due(-1, x.word(0, 0));
        due(-1, x.word(10, 0));
        due(-1, x.word(1, -1));
        due(-1, x.word(1, 64));
        due(-1, x.word(Integer.MIN_VALUE, Integer.MAX_VALUE));
        same(empty, all(x));
        due(0, x.word(1, 0));
        due(1, x.word(9, 63));
        due(9, x.of(1, 0));
        due(63, x.of(1, 1));
        due(1, x.of(1, 2));
        due(5, x.of(1, 3));
        due(1, x.of(1, 4));
        for (int i = 2; i < 12; i++) {
            due(i, x.word(2, 3));
        }
        String full = all(x);
        due(-3, x.word(2, 3));
        due(-1, x.word(2, 64));
        same(full, all(x));
        due(12, x.count(0));
        due(0, x.count(3));
    }

    private static void promise3() {
        TelegramFeelings x = fresh();
        row(x, 0, 0, 7, 9, 63, 2, 1, 0, 0, 3, 4);
        due(-1, x.words(-1, 0, 1));
        due(-1, x.words(6, 0, 1));
        due(-1, x.words(0, 0, 0));
        due(-1, x.words(0, 0, 13));
        due(0, x.words(5, 0, 1));
        due(0, x.words(0, -1, 1));
        due(0, x.words(0, Integer.MIN_VALUE, 12));
        due(0, x.words(0, Integer.MAX_VALUE, 12));
        due(0, x.words(0, 9, 1));
        due(0, x.words(0, 7, 1));
        row(x, 1, 1, 1, 2, 1);
        due(-12, x.words(1, 0, 1));
        due(-12, x.words(1, -1, 1));
        x.body(0);
        x.keep(2, 0);
        due(-12, x.words(2, 0, 1));
        due(0, x.count(0));
        // the third three lacks its SORT
        due(2, x.words(0, 1, 12));
        due(9, x.of(0, 0));
        due(63, x.of(0, 1));
        due(2, x.of(0, 2));
        due(1, x.of(1, 0));
        due(0, x.of(1, 1));
        due(0, x.of(1, 2));
        due(5, x.of(1, 3));
        due(1, x.of(1, 4));
        due(0, x.count(3));
        due(1, x.words(0, 1, 1));
        // one that isn't as it may be ends it: COST, SENSE, SORT
        row(x, 3, 0, 1, 1, 1, 0, 1, 1);
        due(1, x.words(3, 0, 2));
        row(x, 3, 0, 1, 1, 1, 1, 64, 1);
        due(1, x.words(3, 0, 2));
        row(x, 3, 0, 1, 1, 1, 1, 1, 3);
        due(1, x.words(3, 0, 2));
        row(x, 3, 0, 1, 1, 1, 10, 1, 1, 1, 1, 1);
        due(1, x.words(3, 0, 3));
        row(x, 3, 0, 1, -1, 1);
        due(0, x.words(3, 0, 1));
        row(x, 3, 0, 1, 1, -1);
        due(0, x.words(3, 0, 1));
        due(7, x.count(0));
        // WORDS are FULL
        x.row(4, 0, 36);
        for (int i = 0; i < 12; i++) {
            x.put(4, 3 * i, 1);
        }
        due(5, x.words(4, 0, 12));
        due(12, x.count(0));
        due(0, x.words(4, 0, 12));
        TelegramFeelings y = fresh();
        y.row(4, 0, 36);
        for (int i = 0; i < 12; i++) {
            y.put(4, 3 * i, 1);
        }
        due(12, y.words(4, 0, 12));
    }

    private static void promise4() {
        TelegramFeelings x = fresh();
        String empty = all(x);
        due(-1, x.person(-1));
        due(-1, x.person(1000));
        same(empty, all(x));
        due(0, x.person(0));
        due(1, x.person(999));
        due(999, x.of(1, 5));
        due(0, x.of(1, 6));
        for (int i = 2; i < 6; i++) {
            due(i, x.person(i));
        }
        due(-3, x.person(3));
        due(-1, x.person(1000));
        due(6, x.count(1));
    }

    private static void promise5() {
        TelegramFeelings x = five();
        x.person(20);
        int[] least = {1, 0, 0, 1, 0, 0, 0, 0, 0, 1};
        int[] most = {9, 63, 2, 9, 4, 999, 63, 1, 12, 20};
        String before = all(x);
        for (int what = 0; what < 10; what++) {
            due(-1, x.mend(0, what, least[what] - 1));
            due(-1, x.mend(0, what, most[what] + 1));
            due(-1, x.mend(-1, what, least[what]));
            due(-1, x.mend(what < 5 ? 5 : 1, what, least[what]));
        }
        due(-1, x.mend(0, -1, 1));
        due(-1, x.mend(0, 10, 1));
        due(-1, x.mend(Integer.MAX_VALUE, Integer.MIN_VALUE, 1));
        same(before, all(x));
        for (int what = 0; what < 10; what++) {
            int was = x.of(0, what);
            due(was, x.mend(0, what, least[what]));
            due(least[what], x.mend(0, what, most[what]));
            due(most[what], x.of(0, what));
            due(most[what], x.mend(0, what, most[what]));
        }
        // what is mended is what is used
        due(63, x.of(0, 6));
        due(1, x.night() == 0 ? 1 : 0);
        TelegramFeelings y = fresh();
        due(-1, y.mend(0, 0, 1));
        due(-1, y.mend(0, 4, 0));
        due(-1, y.mend(0, 5, 1));
        due(-1, y.mend(0, 6, 1));
        due(0, y.mend(0, 7, 1));
    }

    private static void promise6() {
        TelegramFeelings x = five();
        x.person(20);
        x.person(7);
        due(5, x.of(2, 0));
        due(6, x.of(2, 1));
        due(2, x.of(3, 2));
        due(6, x.of(2, 3));
        due(2, x.of(1, 4));
        due(3, x.of(3, 4));
        due(7, x.of(1, 5));
        due(0, x.of(1, 6));
        due(0, x.of(0, 7));
        due(1, x.of(0, 8));
        due(10, x.of(0, 9));
        for (int what = 0; what < 10; what++) {
            due(-1, x.of(what < 5 ? 5 : what < 7 ? 2 : 1, what));
            due(-1, x.of(-1, what));
        }
        due(-1, x.of(0, 10));
        due(-1, x.of(0, -1));
    }

    private static void promise7() {
        TelegramFeelings x = fresh();
        due(-1, x.feed(-1));
        due(-1, x.feed(256));
        due(0, x.count(2));
        due(1, x.feed(0));
        due(2, x.feed(255));
        for (int i = 3; i <= 120; i++) {
            due(i, x.feed('1'));
        }
        due(-3, x.feed('1'));
        due(-1, x.feed(256));
        due(120, x.count(2));
        due(-100, x.law());
        due(0, x.count(2));
        due(1, x.feed('1'));
    }

    private static String times(String one, int n) {
        StringBuilder b = new StringBuilder();
        for (int i = 0; i < n; i++) {
            b.append(one);
        }
        return b.toString();
    }

    private static void promise8() {
        TelegramFeelings x = fresh();
        x.word(7, 1);
        due(-100, x.law());
        due(7, x.price(0, 300));
        String[] texts = {"1", "9999", "0007", "1?1", "c", "s", "l", "p", "d", "w", "1+2-3", "1*2/3%4", "1|2|3", "1&2&3",
            "1<2", "1=2", "1>2", "(1<2)<3", "1<2&3<4", "1<2|3=4", "!1", "-1", "--1", "!-1", "-(1)", "1--1", "1*-1",
            "1*!c", "1?2", "1;2", "1?2;3", "1?2;3?4;5?6", "((((((1))))))?((((((1))))))", "1?!!!!!!1", "((((((1))))))", "!!!!!!1", "------1", "!-(!-(1))",
            "!!!!!!1+!!!!!!1", "((((((1))))))*-1", times("c;", 59) + "c", times("9", 4)};
        for (String text : texts) {
            TelegramFeelings y = fresh();
            due(1, law(y, text));
            due(0, y.count(2));
        }
        // after '!' and the number, places count from 0
        String[] faults = {"", ":", "a", "+1", "1+", "1++", "1 ", "12345", "c1", "1c", "1<2<3", "1<2=3", "1=2>3",
            "1?2?3", "?1", "1?", ";", "1;", "1;;2", ";1", "(", ")", "()", "(1", "(1;2)", "(1?2)", "1)", "(1))",
            "(((((((1)))))))", "!!!!!!!1", "-------1", "!-(!-((1)))", "((((((-1))))))", "1?2;", "1!", "1!2", "C",
            "((((((1+1)))))", "1?(2?3)", "1|", "1&|", "cd", "1\u00e9", "1\u0000"};
        int[] places = {0, 0, 0, 0, 2, 2, 1, 4, 1, 1, 3, 3, 3,
            3, 0, 2, 0, 2, 2, 0, 1, 0, 1, 2, 2, 2, 1, 3,
            6, 6, 6, 6, 6, 4, 1, 1, 0,
            14, 4, 2, 2, 1, 1, 1};
        due(faults.length, places.length);
        for (int i = 0; i < faults.length && i < places.length; i++) {
            TelegramFeelings y = fresh();
            int got = law(y, faults[i]);
            if (got != -100 - places[i]) {
                System.out.println("text " + faults[i]);
            }
            due(-100 - places[i], got);
            due(0, y.count(2));
        }
        // a fault leaves THE LAW
        due(1, law(x, "c+1"));
        due(-103, law(x, "c+2)"));
        due(8, x.price(0, 300));
        // the longest TEXT
        due(1, law(x, times("1+", 59) + "11"));
        due(70, x.price(0, 300));
        due(-220, law(x, times("1+", 60)));
        due(-219, law(fresh(), times("1+", 59) + "1)"));
        due(1, law(x, times("(1)+", 29) + "(1)"));
        due(30, x.price(0, 300));
    }

    private static long told(String text) {
        TelegramFeelings x = fresh();
        x.word(7, 1);
        x.word(4, 2);
        x.mend(1, 2, 2);
        x.mend(0, 7, 1);
        return law(x, text) == 1 ? x.price(1, 105) : NO;
    }

    private static void promise9() {
        TelegramFeelings x = fresh();
        due(-1, x.price(0, 300));
        x.word(7, 1);
        x.word(4, 2);
        due(-1, x.price(2, 300));
        due(-1, x.price(-1, 300));
        due(-1, x.price(0, -1));
        due(-1, x.price(0, -100));
        due(-1, x.price(0, 12));
        due(-1, x.price(0, 312));
        due(-1, x.price(0, 400));
        due(-1, x.price(0, Integer.MIN_VALUE));
        due(7, x.price(0, 300));
        due(7, x.price(0, 311));
        due(7, x.price(0, 0));
        x.night();
        due(3, x.price(0, 300));
        due(2, x.price(1, 211));
        // word 1: c 4, s 2, l 1, p 5, d 1, w 1
        due(4, told("c"));
        due(2, told("s"));
        due(1, told("l"));
        due(5, told("p"));
        due(1, told("d"));
        due(1, told("w"));
        due(99, told("100"));
        due(99, told("99"));
        due(0, told("0-1"));
        due(0, told("-9999*9999"));
        due(7, told("1+2*3"));
        due(9, told("(1+2)*3"));
        due(3, told("9-4-2"));
        due(2, told("9/2/2"));
        due(2, told("9*2%8"));
        due(10, told("10+7/0"));
        due(10, told("10+7%0"));
        due(13, told("10--7/2"));
        due(11, told("10--7%2"));
        due(9, told("10+-7%2"));
        due(1, told("7|0"));
        due(1, told("7|8"));
        due(0, told("0|0"));
        due(1, told("7&8"));
        due(0, told("7&0"));
        due(7, told("7"));
        due(1, told("0|7&8"));
        due(1, told("1|0&0"));
        due(1, told("2<3"));
        due(0, told("3<3"));
        due(1, told("3=3"));
        due(0, told("3=2"));
        due(1, told("3>2"));
        due(0, told("3>3"));
        due(1, told("1+1=2"));
        due(1, told("!0"));
        due(0, told("!7"));
        due(1, told("!!7"));
        due(0, told("!7+0"));
        due(5, told("6+-1"));
        due(6, told("-2*-3"));
        due(1, told("9999*9999*9999<0"));
        due(99, told("9999*9999*9999*9999"));
        // a result of one E isn't what the next works with
        due(3, told("0?1+2*(3-4);1+2"));
        // lines
        due(5, told("0?3;5"));
        due(3, told("1?3;5"));
        due(3, told("-1?3;5"));
        due(0, told("0?3"));
        due(0, told("0?3;0?5"));
        due(0, told("0;5"));
        due(7, told("0?3;7?7;8"));
        due(4, told("l=1&p=5?4;9"));
        // places and SORTS of its own
        TelegramFeelings y = fresh();
        y.word(7, 1);
        law(y, "l*20+p");
        due(60, y.price(0, 300));
        due(71, y.price(0, 311));
        due(11, y.price(0, 11));
        due(45, y.price(0, 205));
        law(y, "d?50;c");
        due(7, y.price(0, 300));
        y.night();
        due(50, y.price(0, 300));
    }

    // ---- telegrams in thought

    private static void promise10() {
        TelegramFeelings x = five();
        due(-1, x.wire(-1, 0));
        due(-1, x.wire(6, 0));
        due(-1, x.wire(0, -1));
        due(-1, x.wire(0, 6));
        due(-11, x.wire(0, 0));
        row(x, 0, 2, 0, 1);
        due(-12, x.wire(0, 0));
        x.body(0);
        x.keep(0, 0);
        due(-12, x.wire(0, 0));
        row(x, 0, 0, 0, 1, 3, 2);
        due(11, x.wire(0, 0));
        due(15, x.wire(0, 1));
        due(1, x.wire(0, 2));
        due(4, x.wire(0, 3));
        // letters 5 4 2 6: 5+4, 2+6 cost 3 + 5; 5, 4+2 and 6 cost 2 + 3 + 5
        due(8, x.wire(0, 4));
        due(2, x.wire(0, 5));
        x.mend(0, 9, 20);
        due(5, x.wire(0, 4));
        due(1, x.wire(0, 5));
        x.mend(0, 9, 1);
        due(11, x.wire(0, 4));
        due(4, x.wire(0, 5));
        x.mend(0, 9, 11);
        // 5+4+2, 6
        due(8, x.wire(0, 4));
        due(2, x.wire(0, 5));
        // a way of the same PRICE with more runs is not taken
        law(x, "0");
        x.mend(0, 9, 9);
        due(0, x.wire(0, 0));
        due(0, x.wire(0, 4));
        due(2, x.wire(0, 5));
        // what is no WORD ends it
        row(x, 1, 0, 0, 1, 5, 1);
        due(2, x.wire(1, 3));
        row(x, 1, 0, 0, 1, -1, 1);
        due(2, x.wire(1, 3));
        row(x, 1, 0, -1);
        due(0, x.wire(1, 3));
        due(0, x.wire(1, 0));
        due(0, x.wire(1, 2));
        due(0, x.wire(1, 4));
        due(0, x.wire(1, 5));
        x.row(1, 0, 60);
        due(12, x.wire(1, 3));
        // which are RIGHT
        int[][] rows = {{0}, {1}, {3}, {0, 1}, {0, 3}, {0, 0}, {0, 3, 1}, {0, 1, 3, 3, 2}, {0, 1, 0}, {1, 0}, {0, 2, 4},
            {4, 2, 3}, {0, 1, 1, 1, 1, 1, 1, 1, 1, 1, 1, 3}};
        int[] right = {0, 0, 0, 1, 0, 0, 0, 1, 0, 0, 0, 1, 1};
        for (int i = 0; i < rows.length; i++) {
            x.row(2, 0, rows[i].length);
            for (int k = 0; k < rows[i].length; k++) {
                x.put(2, k, rows[i][k]);
            }
            due(right[i], x.wire(2, 2));
        }
        // the law knows the place and the SORT ahead
        law(x, "p*10+l");
        row(x, 2, 0, 0, 1, 3);
        due(3 + 10 + 21, x.wire(2, 0));
        // the dearest in its place counts in a run
        x.mend(0, 9, 20);
        due(21, x.wire(2, 4));
        TelegramFeelings y = five();
        row(y, 0, 0, 0, 1, 3);
        due(3 + 1, y.wire(0, 4));
        due(2, y.wire(0, 5));
        y.night();
        due(1, y.wire(0, 4));
        row(y, 1, 0, 0, 1, 1, 1, 1, 1, 1, 1, 1, 1, 1, 2, 2);
        y.mend(0, 7, 0);
        y.mend(0, 9, 9);
        // 5, five times 4+4, 6; twelve WORDS alone
        due(2 + 5 * 3 + 5, y.wire(1, 4));
        due(7, y.wire(1, 5));
        due(12, y.wire(1, 3));
        due(2 + 30 + 5, y.wire(1, 0));
    }

    private static void promise11() {
        TelegramFeelings x = five();
        due(-1, x.say(-1, -1));
        due(-1, x.say(4096, -1));
        due(-2, x.say(4095, -1));
        due(-2, x.say(4032 + 63, 0));
        due(-1, x.say(0, -3));
        due(-1, x.say(64 * 3 + 1, Integer.MIN_VALUE));
        due(-2, x.say(64 * 32, -1));
        due(-2, x.say(64 * 32, 0));
        due(-2, x.say(64 + 1, -1));
        due(5, x.say(0, -1));
        due(2, x.say(0, -2));
        due(0, x.say(0, 0));
        due(1, x.say(0, 1));
        due(-2, x.say(0, 2));
        due(-2, x.say(0, Integer.MAX_VALUE));
        // bits 3 and 4, not 0: who 4, what 1, how 3
        due(8, x.say(64 * 24 + 1, -1));
        due(3, x.say(64 * 24 + 1, -2));
        due(4, x.say(64 * 24 + 1, 0));
        due(1, x.say(64 * 24 + 1, 1));
        due(3, x.say(64 * 24 + 1, 2));
        due(-2, x.say(64 * 24 + 1, 3));
        due(-2, x.say(64 * 24 + 2, -1));
        due(-2, x.say(64 * 17, -1));
        // all WORDS cost nothing: the fewest, then the first by numbers
        law(x, "0");
        due(0, x.say(64 * 4, -1));
        due(2, x.say(64 * 4, -2));
        due(0, x.say(64 * 4, 0));
        due(2, x.say(64 * 4, 1));
        // behind a HOW a WORD costs nothing: more WORDS are cheaper than fewer
        law(x, "l=2?0;c");
        due(6, x.say(64 * 14, -1));
        due(4, x.say(64 * 14, -2));
        due(3, x.say(64 * 14, 2));
        due(2, x.say(64 * 14, 3));
        // 6 WORDS at most: five bits by five WHATs
        TelegramFeelings y = office(new int[] {1, 0, 0, 5, -1}, new int[] {1, 1, 1, 5, -1}, new int[] {1, 2, 1, 5, -1},
                new int[] {1, 4, 1, 5, -1}, new int[] {1, 8, 1, 5, -1}, new int[] {1, 16, 1, 5, -1},
                new int[] {1, 32, 1, 5, -1});
        due(6, y.say(64 * 31, -1));
        due(6, y.say(64 * 31, -2));
        due(1, y.say(64 * 31, 1));
        due(5, y.say(64 * 31, 5));
        due(-2, y.say(64 * 31, 6));
        due(-2, y.say(64 * 63, -1));
        // a WORD may be mended, or come: told anew
        y.mend(6, 1, 33);
        due(6, y.say(64 * 63, -1));
        due(2, y.say(64 * 63, 1));
        y.undo();
        due(-2, y.say(64 * 63, -1));
        y.word(2, 63);
        due(3, y.say(64 * 63, -1));
        due(7, y.say(64 * 63, 1));
        y.night();
        due(1, y.say(64 * 63, -1));
        // a SORT may be mended, too
        TelegramFeelings z = office(new int[] {1, 0, 0, 5, -1}, new int[] {2, 0, 1, 5, -1}, new int[] {1, 1, 0, 5, -1});
        due(3, z.say(0, -1));
        due(2, z.say(62, -2));
        z.mend(2, 2, 1);
        due(2, z.say(0, -1));
        due(3, z.say(1, -1));
        law(z, "9");
        due(18, z.say(1, -1));
        z.mend(2, 2, 0);
        due(2, z.say(64, 0));
        due(-2, fresh().say(0, -1));
        due(-2, fresh().say(0, -2));
    }

    private static void promise12() {
        TelegramFeelings x = five();
        due(-1, x.allFor(-1, 0));
        due(-1, x.allFor(1000, 0));
        due(-1, x.allFor(5, -1));
        due(-1, x.allFor(5, 2));
        due(-2, x.allFor(4, 0));
        due(-2, x.allFor(4, 1));
        due(-2, x.allFor(0, 0));
        due(2, x.allFor(5, 0));
        due(3, x.allFor(5, 1));
        due(3, x.allFor(6, 0));
        due(11, x.allFor(6, 1));
        // 7 pays 0 2 or 4 1: {0, 1, 2}, of three bits; with the how {0, 1, 3} by 6: the least
        due(7, x.allFor(7, 1));
        due(4, x.allFor(8, 0));
        due(15, x.allFor(8, 1));
        due(4, x.allFor(999, 0));
        due(15, x.allFor(999, 1));
        // 0 bits, too
        TelegramFeelings y = office(new int[] {1, 0, 0, 5, -1}, new int[] {1, 0, 1, 5, -1}, new int[] {9, 1, 1, 5, -1});
        due(0, y.allFor(2, 0));
        due(0, y.allFor(2, 1));
        due(0, y.allFor(9, 1));
        due(1, y.allFor(10, 1));
        due(-2, fresh().allFor(999, 0));
    }

    private static void promise13() {
        TelegramFeelings x = five();
        due(-1, x.tooDear(0));
        x.person(4);
        x.person(5);
        x.person(7);
        x.person(999);
        due(63, x.tooDear(0));
        due(63 - 3, x.tooDear(1));
        due(63 - 31, x.tooDear(2));
        due(32, x.tooDear(3));
        due(-1, x.tooDear(4));
        due(-1, x.tooDear(-1));
        x.mend(3, 5, 5);
        due(63 - 3, x.tooDear(3));
        x.night();
        due(32, x.tooDear(3));
    }

    private static void promise14() {
        TelegramFeelings x = fresh();
        due(-1, x.year(0, 0, 0));
        x.person(20);
        x.person(0);
        due(-1, x.year(6, 0, 0));
        due(-1, x.year(-1, 0, 0));
        due(-1, x.year(0, 2, 0));
        due(-1, x.year(0, -1, 0));
        due(-1, x.year(0, 0, 2));
        due(-1, x.year(0, 0, -1));
        due(-11, x.year(0, 0, 0));
        row(x, 0, 0, 1, 1);
        due(-12, x.year(0, 0, 0));
        row(x, 1, 1, 10, 6, 10, 5, 20, 11, 5, 1);
        due(11, x.year(1, 0, 0));
        // {0, 1} and {2}: the least bits
        due(3, x.year(1, 0, 1));
        due(0, x.year(1, 1, 0));
        due(0, x.year(1, 1, 1));
        // one without a worth, or not as it may be, ends it
        row(x, 2, 1, 1, 5, 1, 1000, 1, 7);
        due(5, x.year(2, 0, 0));
        row(x, 2, 1, 1, 5, -1, 5, 1, 7);
        due(5, x.year(2, 0, 0));
        row(x, 2, 1, 1, 5, 1000, 5);
        due(5, x.year(2, 0, 0));
        row(x, 2, 1, 1, 5, 1);
        due(1, x.year(2, 0, 1));
        row(x, 2, 1, 20, 1);
        due(1, x.year(2, 0, 0));
        due(1, x.year(2, 0, 1));
        row(x, 2, 1);
        due(0, x.year(2, 0, 0));
        // 8 at most
        row(x, 3, 1, 1, 1, 1, 1, 1, 1, 1, 1, 1, 1, 1, 1, 1, 1, 1, 1, 1, 1);
        due(8, x.year(3, 0, 0));
        due(255, x.year(3, 0, 1));
        // what is worth nothing is left out; what costs nothing is taken even by an empty PURSE
        row(x, 4, 1, 0, 0, 0, 999, 0, 999);
        due(1998, x.year(4, 1, 0));
        due(6, x.year(4, 1, 1));
        row(x, 4, 1, 999, 999, 21, 5);
        due(0, x.year(4, 0, 0));
    }

    // ---- errors, senders

    private static void refusesLong(TelegramFeelings x) {
        due(NO, x.came(0));
        due(NO, x.came(6));
        due(NO, x.came(-1));
    }

    private static void promise15() {
        TelegramFeelings x = five();
        refusesLong(x);
        row(x, 0, 1, 0, 1);
        refusesLong(x);
        row(x, 0, 0, 0, 1, 3);
        due(2, x.came(0));
        row(x, 0, 0, 0, 1, 3, 2, 2, 1);
        due(16, x.came(0));
        // of the first 6 WORDS alone
        row(x, 0, 0, 0, 1, 3, 2, 2, 1, 0, 0);
        due(16, x.came(0));
        row(x, 0, 0, 0);
        due(0, x.came(0));
        row(x, 0, 0);
        due(0, x.came(0));
        row(x, 0, 0, 0, 1);
        x.mend(0, 8, 0);
        due(1, x.came(0));
        x.mend(0, 8, 12);
        due(1, x.came(0));
        x.mend(2, 4, 2);
        due(0, x.came(0));
        // two WORDS come as a third one
        x.mend(3, 4, 1);
        x.mend(0, 8, 6);
        due(1, x.came(0));
        row(x, 0, 0, 0, 2, 1);
        due(4, x.came(0));
    }

    private static void promise16() {
        TelegramFeelings x = five();
        due(-1, x.cameAs(0, -1));
        due(-1, x.cameAs(6, 0));
        due(-1, x.cameAs(-1, 0));
        due(-11, x.cameAs(0, 0));
        due(-11, x.cameAs(0, 99));
        row(x, 0, 3, 0, 1);
        due(-12, x.cameAs(0, 0));
        row(x, 0, 0, 0, 1, 3);
        due(0, x.cameAs(0, 0));
        due(1, x.cameAs(0, 1));
        due(3, x.cameAs(0, 2));
        due(-2, x.cameAs(0, 3));
        due(-2, x.cameAs(0, Integer.MAX_VALUE));
        x.mend(0, 8, 7);
        due(2, x.cameAs(0, 1));
        // of like ones the first by numbers
        x.mend(0, 8, 6);
        due(1, x.cameAs(0, 1));
        row(x, 0, 0, 0, 2, 2, 3, 1);
        due(1, x.cameAs(0, 1));
        due(1, x.cameAs(0, 2));
        due(3, x.cameAs(0, 3));
        due(1, x.cameAs(0, 4));
        row(x, 0, 0, 1, 1);
        due(-2, x.cameAs(0, 0));
        row(x, 0, 0);
        due(-2, x.cameAs(0, 0));
        // seven WORDS: the first six
        row(x, 0, 0, 0, 1, 3, 3, 3, 2, 1);
        due(1, x.cameAs(0, 5));
        due(-2, x.cameAs(0, 6));
        // by three WORDS that may be taken for one another, over several places
        TelegramFeelings z = office(new int[] {1, 1, 0, 5, 1}, new int[] {1, 2, 1, 5, 2}, new int[] {1, 4, 2, 5, 1},
                new int[] {1, 4, 0, 5, -1}, new int[] {1, 8, 1, 5, 2});
        z.mend(0, 8, 5);
        row(z, 0, 0, 3, 2, 2, 1, 2, 1);
        int[] due = {3, 1, 2, 1, 2, 1};
        for (int i = 0; i < 6; i++) {
            due(due[i], z.cameAs(0, i));
        }
        // 2 behind a who isn't RIGHT; 1 and 4 may have been sent for it
        due(2 * 3 * 2 * 3 * 2, z.came(0));
        z.mend(0, 8, 12);
        row(z, 0, 0, 1, 2, 1, 2, 1);
        int[] all = {0, 1, 2, 1, 2};
        for (int i = 0; i < 5; i++) {
            due(all[i], z.cameAs(0, i));
        }
        // the likeliest of all isn't RIGHT: the likeliest RIGHT one
        TelegramFeelings y = office(new int[] {1, 1, 0, 5, -1}, new int[] {1, 2, 1, 5, 0}, new int[] {1, 4, 1, 5, -1});
        row(y, 0, 0, 0, 0);
        due(0, y.cameAs(0, 0));
        due(1, y.cameAs(0, 1));
        due(1, y.came(0));
    }

    private static void promise17() {
        TelegramFeelings x = five();
        due(NO, x.meant(0, 0, 0));
        row(x, 0, 1, 0, 1);
        due(NO, x.meant(0, 0, 0));
        row(x, 0, 0, 0, 1, 3);
        due(NO, x.meant(6, 0, 0));
        due(NO, x.meant(-1, 0, 0));
        due(NO, x.meant(0, -1, 0));
        due(NO, x.meant(0, 6, 0));
        due(NO, x.meant(0, 0, -1));
        due(0, x.meant(0, 5, 0));
        due(1, x.meant(0, 5, 1));
        due(NO, x.meant(0, 0, 2));
        due(1, x.meant(0, 0, 0));
        due(1, x.meant(0, 0, 1));
        due(1, x.meant(0, 2, 0));
        due(12, x.meant(0, 2, 1));
        due(0, x.meant(0, 4, 0));
        due(1, x.meant(0, 4, 1));
        x.mend(0, 8, 3);
        due(1, x.meant(0, 2, 0));
        due(4, x.meant(0, 2, 1));
        // two such WORDS: 1 - 9/12 * 9/12
        row(x, 0, 0, 0, 1, 1);
        due(7, x.meant(0, 2, 0));
        due(16, x.meant(0, 2, 1));
        // only RIGHT ones are weighed: word 0 comes as 1 too, but can't be there
        x.mend(0, 4, 1);
        due(7, x.meant(0, 2, 0));
        due(16, x.meant(0, 2, 1));
        row(x, 0, 0, 3, 3);
        due(0, x.meant(0, 3, 0));
        due(1, x.meant(0, 3, 1));
        row(x, 0, 0);
        due(0, x.meant(0, 3, 0));
        due(1, x.meant(0, 3, 1));
    }

    private static void promise18() {
        TelegramFeelings x = five();
        due(-1, x.certain(-1));
        due(-1, x.certain(6));
        due(-11, x.certain(0));
        row(x, 0, 4, 0, 1);
        due(-12, x.certain(0));
        row(x, 0, 0, 0, 1, 3);
        due(11, x.certain(0));
        row(x, 0, 0, 0, 2, 3);
        due(11, x.certain(0));
        x.mend(0, 8, 0);
        due(15, x.certain(0));
        row(x, 0, 0, 1, 1);
        due(0, x.certain(0));
        row(x, 0, 0);
        due(0, x.certain(0));
        // a bit by either of two WORDS isn't certain, though one each has it
        TelegramFeelings y = office(new int[] {1, 0, 0, 5, -1}, new int[] {1, 1, 1, 5, 2}, new int[] {1, 2, 1, 5, 1});
        row(y, 0, 0, 0, 1, 2);
        due(0, y.certain(0));
    }

    private static void promise19() {
        TelegramFeelings x = five();
        due(NO, x.safe(0, 0));
        row(x, 0, 2, 0, 1);
        due(NO, x.safe(0, 0));
        row(x, 0, 0, 0, 1, 3);
        due(NO, x.safe(0, -1));
        due(NO, x.safe(0, 2));
        due(NO, x.safe(6, 0));
        due(NO, x.safe(-1, 0));
        due(11, x.safe(0, 0));
        due(12, x.safe(0, 1));
        row(x, 0, 0, 0, 1, 1);
        due(121, x.safe(0, 0));
        due(144, x.safe(0, 1));
        // with word 2 beside it, word 1 may slip; not both or word 2 alone
        row(x, 0, 0, 1, 2);
        // 11*11 (both as they are) + 1*11 (2 2) + 1*1 (2 1)
        due(133, x.safe(0, 0));
        due(144, x.safe(0, 1));
        x.mend(0, 8, 12);
        due(1, x.safe(0, 0));
        due(1, x.safe(0, 1));
        row(x, 0, 0, 1);
        due(0, x.safe(0, 0));
        due(1, x.safe(0, 1));
        x.mend(0, 8, 0);
        due(1, x.safe(0, 0));
        due(1, x.safe(0, 1));
        // six WORDS, and a seventh that isn't looked at
        x.mend(0, 8, 1);
        row(x, 0, 0, 1, 1, 1, 1, 1, 1, 2);
        due(11L * 11 * 11 * 11 * 11 * 11, x.safe(0, 0));
        due(12L * 12 * 12 * 12 * 12 * 12, x.safe(0, 1));
        row(x, 0, 0);
        due(1, x.safe(0, 0));
        due(1, x.safe(0, 1));
    }

    private static void promise20() {
        TelegramFeelings x = five();
        due(-1, x.unsigned(6, 0));
        due(-1, x.unsigned(-1, 0));
        due(-1, x.unsigned(0, 2));
        due(-1, x.unsigned(0, -1));
        due(-11, x.unsigned(0, 0));
        row(x, 0, 1, 0, 1);
        due(-12, x.unsigned(0, 0));
        row(x, 0, 0, 0, 1);
        due(0, x.unsigned(0, 0));
        due(-2, x.unsigned(0, 1));
        x.person(5);
        x.person(4);
        x.person(6);
        x.person(6);
        x.mend(0, 6, 3);
        x.mend(1, 6, 63);
        due(1, x.unsigned(0, 0));
        due(0, x.unsigned(0, 1));
        x.mend(2, 6, 7);
        x.mend(3, 6, 3);
        due(13, x.unsigned(0, 0));
        due(2, x.unsigned(0, 1));
        x.mend(2, 6, 2);
        due(9, x.unsigned(0, 0));
        due(3, x.unsigned(0, 1));
        x.night();
        due(11, x.unsigned(0, 0));
        x.mend(0, 5, 600);
        due(0, x.unsigned(0, 1));
        x.mend(0, 5, 5);
        // it need not be RIGHT; an empty one may be anyone's
        row(x, 0, 0);
        due(15, x.unsigned(0, 0));
        due(2, x.unsigned(0, 1));
        // by all its WORDS: the seventh has bit 4
        row(x, 0, 0, 3, 3, 3, 3, 3, 3, 4);
        x.mend(0, 7, 0);
        x.mend(0, 5, 10);
        x.mend(1, 5, 9);
        x.mend(0, 6, 8);
        x.mend(1, 6, 24);
        due(0, x.unsigned(0, 0));
        x.mend(1, 5, 10);
        due(2, x.unsigned(0, 0));
    }

    private static void promise21() {
        TelegramFeelings x = fresh();
        due(-1, x.club(0, 0, 0));
        x.person(3);
        x.person(3);
        x.person(4);
        due(-1, x.club(-1, 0, 0));
        due(-1, x.club(8, 0, 0));
        due(-1, x.club(7, -1, 0));
        due(-1, x.club(7, 1000, 0));
        due(-1, x.club(7, 1, 3));
        due(-1, x.club(7, 1, -1));
        due(-2, x.club(7, 11, 0));
        due(-2, x.club(6, 1, 0));
        due(-2, x.club(0, 0, 0));
        due(3, x.club(7, 10, 0));
        due(3, x.club(7, 10, 1));
        due(4, x.club(7, 10, 2));
        // 5: 1 1 2, and one is left for the least number
        due(2, x.club(7, 5, 0));
        due(1, x.club(7, 5, 1));
        due(2, x.club(7, 5, 2));
        // 2: 0 0 0, and two are left
        due(1, x.club(7, 2, 0));
        due(1, x.club(7, 2, 1));
        due(0, x.club(7, 2, 2));
        // the least of the set
        due(1, x.club(6, 1, 1));
        due(0, x.club(6, 1, 2));
        due(0, x.club(7, 0, 0));
        // an empty PURSE gets what is left, too
        x.mend(0, 5, 0);
        due(1, x.club(7, 1, 0));
        x.mend(1, 5, 0);
        due(0, x.club(3, 0, 0));
        due(-2, x.club(3, 1, 0));
        x.mend(1, 5, 1);
        due(0, x.club(3, 1, 0));
        due(1, x.club(3, 1, 1));
        TelegramFeelings y = fresh();
        for (int i = 0; i < 6; i++) {
            y.person(999);
        }
        due(167, y.club(63, 999, 2));
        due(166, y.club(63, 999, 3));
        due(-1, y.club(64, 999, 3));
    }

    private static void promise22() {
        TelegramFeelings x = fresh();
        due(-1, x.lacks(-1));
        due(-1, x.lacks(2));
        due(63, x.lacks(0));
        due(-2, x.lacks(1));
        x.word(9, 0);
        due(63, x.lacks(0));
        due(-2, x.lacks(1));
        x.word(4, 6);
        due(57, x.lacks(0));
        due(1, x.lacks(1));
        x.word(2, 8);
        due(1, x.lacks(1));
        // 5 by 2 is above 2 by 1 (not cut)
        x.word(5, 48);
        due(3, x.lacks(1));
        x.word(8, 7);
        due(4, x.lacks(1));
        due(0, x.lacks(0));
        x.word(3, 1);
        due(5, x.lacks(1));
        // its COST, whatever the law or the night say
        law(x, "9-c");
        x.night();
        due(5, x.lacks(1));
        TelegramFeelings y = fresh();
        y.word(1, 63);
        due(0, y.lacks(1));
        due(0, y.lacks(0));
        y.word(1, 62);
        due(1, y.lacks(1));
        y.mend(0, 1, 1);
        due(0, y.lacks(0));
        due(0, y.lacks(1));
    }

    private static void promise23() {
        TelegramFeelings x = fresh();
        due(0, x.drawn(1, 101, 0));
        due(0, x.drawn(1, 3020, 1));
        x = five();
        due(-1, x.drawn(1, 0, 0));
        due(-1, x.drawn(1, 1, 0));
        due(-1, x.drawn(1, 100, 0));
        due(-1, x.drawn(1, 121, 0));
        due(-1, x.drawn(1, 3101, 0));
        due(-1, x.drawn(1, -101, 0));
        due(-1, x.drawn(1, 101, 2));
        due(-1, x.drawn(1, 101, -1));
        for (int err = 0; err <= 12; err += 4) {
            for (int seed = -3; seed < 4; seed++) {
                x = five();
                x.mend(0, 8, err);
                due(drawnSlowly(x, seed * 1000003, 3020, 0), x.drawn(seed * 1000003, 3020, 0));
                due(drawnSlowly(x, seed * 1000003, 3020, 1), x.drawn(seed * 1000003, 3020, 1));
                due(drawnSlowly(x, seed, 203, 1), x.drawn(seed, 203, 1));
            }
        }
        TelegramFeelings y = fresh();
        y.word(1, 1);
        y.word(1, 2);
        y.mend(0, 4, 1);
        y.mend(0, 8, 6);
        due(drawnSlowly(y, 99, 3020, 1), y.drawn(99, 3020, 1));
        TelegramFeelings z = fresh();
        z.word(1, 1);
        due(0, z.drawn(99, 3020, 0));
        due(0, z.drawn(99, 3020, 1));
    }

    /** As the document tells it, by the numbers that the office answers. */
    private static int drawnSlowly(TelegramFeelings x, int seed, int nm, int what) {
        int many = x.count(0);
        int err = x.of(0, 8);
        int[][] words = new int[5][many];
        for (int i = 0; i < many; i++) {
            for (int w = 1; w < 5; w++) {
                words[w][i] = x.of(i, w);
            }
        }
        int z = seed;
        int found = 0;
        for (int t = 0; t < nm / 100 * (nm % 100); t++) {
            int[] sent = new int[3];
            int before = 0;
            int after = 0;
            for (int k = 0; k < 3; k++) {
                z = z * 1103515245 + 12345;
                sent[k] = (z >>> 10) % many;
                before |= words[1][sent[k]];
                after |= words[1][(z >>> 18) % 12 < err ? words[4][sent[k]] : sent[k]];
            }
            boolean right = words[2][sent[0]] == 0 && words[2][sent[1]] == 1 && words[2][sent[2]] != 0;
            found += (what == 0 ? right : before != after) ? 1 : 0;
        }
        return found;
    }

    // ---- in deed

    private static void promise24() {
        TelegramFeelings x = five();
        x.person(11);
        x.person(7);
        x.mend(0, 6, 15);
        x.mend(1, 6, 32);
        due(-1, x.send(0, 0));
        due(-1, x.send(0, 11));
        due(-1, x.send(0, 2));
        due(-1, x.send(0, 20));
        due(-1, x.send(0, -1));
        due(-1, x.send(0, -10));
        due(-1, x.send(6, 1));
        due(-11, x.send(0, 1));
        row(x, 0, 1, 0);
        due(-12, x.send(0, 1));
        due(0, x.led(3));
        row(x, 0, 0, 0);
        due(-2, x.send(0, 1));
        due(1, x.led(3));
        row(x, 0, 0, 0, 1, 3);
        due(-5, x.send(0, 10));
        due(2, x.led(3));
        due(6, x.send(0, 1));
        due(5, x.of(0, 5));
        due(7, x.of(1, 5));
        due(15, x.of(0, 6));
        due(32 + 11, x.of(1, 6));
        // too dear now; at night it isn't
        due(-5, x.send(0, 1));
        due(5, x.of(0, 5));
        x.night();
        due(2, x.send(0, 1));
        due(3, x.of(0, 5));
        // the other one FEELS it now
        due(2, x.send(0, 10));
        // not RIGHT comes ahead of not FELT
        row(x, 0, 0, 4, 4);
        due(-2, x.send(0, 1));
        due(4, x.led(3));
        due(3, x.led(0));
        // deeds are no CHANGES: five() made 3 of SORT, 4 of LONG, 2 of SLIP, and two came of FEELS
        due(3 + 4 + 2 + 2, x.count(3));
    }

    private static void promise25() {
        TelegramFeelings x = fresh();
        due(1, x.night());
        due(1, x.of(0, 7));
        due(0, x.night());
        due(0, x.of(0, 7));
        due(0, x.count(3));
        x.mend(0, 7, 1);
        due(0, x.night());
    }

    private static void promise26() {
        TelegramFeelings x = five();
        x.person(999);
        x.person(999);
        x.mend(0, 6, 63);
        row(x, 0, 0, 0, 1, 3);
        due(-1, x.led(-1));
        due(-1, x.led(5));
        x.send(0, 1);
        x.night();
        x.send(0, 1);
        x.send(0, 1);
        x.row(0, 0, 0);
        x.send(0, 1);
        due(3, x.led(0));
        due(9, x.led(1));
        due(6 + 2 + 2, x.led(2));
        due(1, x.led(3));
        due(2, x.led(4));
    }

    private static void promise27() {
        TelegramFeelings x = five();
        due(0, x.image());
        x.person(999);
        x.person(1);
        x.mend(0, 6, 63);
        row(x, 0, 0, 0, 1);
        x.send(0, 1);
        due(1, x.image());
        x.send(0, 1);
        due(2, x.image());
        due(2, x.back());
    }

    private static void promise28() {
        TelegramFeelings x = five();
        due(-5, x.back());
        x.person(100);
        x.person(50);
        x.mend(0, 6, 63);
        row(x, 0, 0, 0, 1);
        x.send(0, 1);
        due(1, x.image());
        String then = all(x);
        x.night();
        x.send(0, 1);
        x.send(0, 10);
        x.send(0, 12);
        x.row(1, 0, 0);
        x.send(1, 1);
        due(1, x.back());
        // shelves aren't in it
        x.keep(1, -1);
        same(then, all(x));
        // an image of a night
        x.night();
        x.image();
        x.night();
        x.back();
        due(1, x.of(0, 7));
        x.night();
        x.image();
        // again, and with someone who came since, and a WORD mended since
        x.night();
        x.person(7);
        x.mend(2, 6, 9);
        x.mend(0, 0, 9);
        x.mend(0, 8, 3);
        x.mend(0, 9, 3);
        x.mend(1, 6, 63);
        due(1, x.back());
        due(0, x.of(0, 7));
        due(7, x.of(2, 5));
        due(9, x.of(2, 6));
        due(9, x.of(0, 0));
        due(3, x.of(0, 8));
        due(3, x.of(0, 9));
        due(3, x.of(1, 6));
        due(3, x.count(1));
        due(1, x.led(0));
        due(0, x.led(3));
    }

    private static void promise29() {
        TelegramFeelings x = fresh();
        due(-5, x.undo());
        x.word(3, 1);
        x.person(10);
        x.mend(0, 0, 4);
        x.mend(0, 0, 4);
        x.mend(0, 5, 20);
        x.mend(0, 7, 1);
        x.mend(0, 0, 10);
        due(3, x.count(3));
        due(2, x.undo());
        due(0, x.of(0, 7));
        due(1, x.undo());
        due(10, x.of(0, 5));
        due(4, x.of(0, 0));
        due(0, x.undo());
        due(3, x.of(0, 0));
        due(-5, x.undo());
        // 40 at most are kept
        for (int i = 0; i < 41; i++) {
            x.mend(0, 5, 100 + i);
        }
        due(40, x.count(3));
        for (int i = 39; i >= 0; i--) {
            due(i, x.undo());
        }
        due(-5, x.undo());
        due(100, x.of(0, 5));
        // the first ones go, of whatever they were
        TelegramFeelings y = fresh();
        y.word(1, 1);
        y.word(1, 1);
        int[][] many = new int[45][];
        for (int i = 0; i < 45; i++) {
            int what = i % 2 == 0 ? 0 : 3;
            int number = i / 2 % 2;
            many[i] = new int[] {number, what, y.of(number, what), 1 + (i + 5) % 9};
            y.mend(number, what, 1 + (i + 5) % 9);
        }
        due(40, y.count(3));
        for (int i = 44; i >= 5; i--) {
            due(many[i][3], y.of(many[i][0], many[i][1]));
            due(i - 5, y.undo());
            due(many[i][2], y.of(many[i][0], many[i][1]));
        }
        due(-5, y.undo());
        for (int i = 5; i < 45; i++) {
            due(44 - i, y.redo());
            due(many[i][3], y.of(many[i][0], many[i][1]));
        }
        // a deed stands between: the number becomes what it was ahead of the change
        x.mend(0, 7, 1);
        x.night();
        due(0, x.of(0, 7));
        x.undo();
        due(0, x.of(0, 7));
        due(0, x.redo());
        due(1, x.of(0, 7));
    }

    private static void promise30() {
        TelegramFeelings x = fresh();
        due(-5, x.redo());
        x.word(3, 1);
        x.mend(0, 0, 4);
        x.mend(0, 0, 5);
        x.mend(0, 0, 6);
        due(-5, x.redo());
        x.undo();
        x.undo();
        due(1, x.redo());
        due(5, x.of(0, 0));
        due(2, x.count(3));
        // telling the same, a refused one and deeds don't come behind
        x.mend(0, 0, 5);
        x.mend(0, 0, 10);
        x.night();
        x.word(1, 1);
        due(0, x.redo());
        due(6, x.of(0, 0));
        due(-5, x.redo());
        x.undo();
        x.undo();
        x.mend(0, 1, 2);
        due(-5, x.redo());
        due(2, x.count(3));
        due(1, x.undo());
        due(0, x.redo());
        due(2, x.of(0, 1));
        // with all 40, the last 40 are done again
        for (int i = 0; i < 50; i++) {
            x.mend(0, 9, 11 + i % 2);
        }
        for (int i = 0; i < 40; i++) {
            x.undo();
        }
        due(-5, x.undo());
        for (int i = 39; i >= 0; i--) {
            due(i, x.redo());
        }
        due(-5, x.redo());
        due(40, x.count(3));
        due(12, x.of(0, 9));
    }

    // ---- acts, shelves

    private static void promise31() {
        TelegramFeelings x = fresh();
        due(-1, x.body(-1));
        due(-1, x.body(8));
        due(0, x.count(4));
        for (int i = 0; i < 50; i++) {
            due(i, x.body(i % 8));
        }
        due(-3, x.body(0));
        due(-1, x.body(8));
        due(50, x.count(4));
    }

    // ACTS by Java's own classes
    private static StringBuilder ran;

    private interface Says {
        int n();

        default int says(int x) {
            ran.append("1 ");
            return x + n();
        }
    }

    private static class Wire implements Says {
        int n;

        public int n() {
            return n;
        }

        int costs(int x) {
            ran.append("10 ");
            return says(x) * 2;
        }

        int errs(int x) {
            ran.append("11 ");
            return x ^ n;
        }

        int tells(int x) {
            ran.append("2 ");
            return costs(x) - errs(1);
        }
    }

    private static class Form extends Wire {
        public int says(int x) {
            ran.append("20 ");
            return super.says(x) + 3;
        }
    }

    private static class Clerk extends Wire {
        int costs(int x) {
            ran.append("30 ");
            return -super.costs(x);
        }
    }

    private static class Stop extends Clerk {
        int errs(int x) {
            ran.append("40 ");
            return super.errs(x) * 3;
        }

        int costs(int x) {
            ran.append("41 ");
            return super.costs(x + 1);
        }
    }

    private static class Grief extends Form {
        int tells(int x) {
            ran.append("50 ");
            return super.tells(x) ^ 5;
        }
    }

    private static class Boy extends Stop {
        int errs(int x) {
            ran.append("60 ");
            return super.errs(x) - says(2);
        }

        int tells(int x) {
            ran.append("61 ");
            return super.tells(x) + 1;
        }
    }

    private static class Cow extends Wire {
        public int says(int x) {
            ran.append("70 ");
            return super.says(x) * 2;
        }
    }

    private static class Pencil extends Cow {
        int costs(int x) {
            ran.append("80 ");
            return super.costs(x) + errs(2);
        }

        public int says(int x) {
            ran.append("81 ");
            return super.says(x) - 1;
        }
    }

    private static Wire javas(int kind) {
        switch (kind) {
            case 0: return new Wire();
            case 1: return new Form();
            case 2: return new Clerk();
            case 3: return new Stop();
            case 4: return new Grief();
            case 5: return new Boy();
            case 6: return new Cow();
            default: return new Pencil();
        }
    }

    private static String traceOf(TelegramFeelings x) {
        StringBuilder b = new StringBuilder();
        for (int i = 0; i < 24 && x.trace(i) != -1; i++) {
            b.append(x.trace(i)).append(' ');
        }
        return b.toString();
    }

    private static void promise32() {
        int[] xs = {0, 1, -1, 5, 77, Integer.MAX_VALUE, Integer.MIN_VALUE, 0x40000000};
        for (int kind = 0; kind < 8; kind++) {
            TelegramFeelings x = fresh();
            for (int i = 0; i < 50; i++) {
                x.body(i == 0 || i == 41 ? kind : 0);
            }
            for (int body = 0; body <= 41; body += 41) {
                for (int act = 0; act < 4; act++) {
                    for (int v : xs) {
                        Wire w = javas(kind);
                        w.n = body;
                        ran = new StringBuilder();
                        int want = act == 0 ? w.says(v) : act == 1 ? w.costs(v) : act == 2 ? w.errs(v) : w.tells(v);
                        due(want, x.act(body, act, v));
                        if (v == 5) {
                            same(ran.toString(), traceOf(x));
                            due(ran.toString().split(" ").length, x.count(5));
                        }
                    }
                }
            }
            // no such BODY, ACT
            int[][] wrongs = {{-1, 0}, {50, 0}, {0, -1}, {0, 4}, {Integer.MIN_VALUE, 1}, {Integer.MAX_VALUE, 3}};
            for (int[] w : wrongs) {
                x.act(0, 3, 1);
                due(0, x.act(w[0], w[1], 9));
                due(0, x.count(5));
                due(-1, x.trace(0));
            }
        }
    }

    private static void promise33() {
        TelegramFeelings x = fresh();
        for (int i = 0; i < 8; i++) {
            x.body(i);
        }
        due(-1, x.trace(0));
        x.act(5, 3, 5);
        int[] due = {61, 2, 41, 30, 10, 1, 60, 40, 11, 1};
        for (int i = 0; i < due.length; i++) {
            due(due[i], x.trace(i));
        }
        due(-1, x.trace(10));
        due(-1, x.trace(-1));
        due(-1, x.trace(24));
        due(-1, x.trace(Integer.MAX_VALUE));
        x.act(0, 0, 1);
        due(1, x.trace(0));
        due(-1, x.trace(1));
    }

    private static void promise34() {
        TelegramFeelings x = fresh();
        due(-1, x.keep(0, 0));
        x.body(3);
        due(-1, x.keep(6, 0));
        due(-1, x.keep(-1, 0));
        due(-1, x.keep(0, 1));
        due(-1, x.keep(0, -2));
        due(-11, x.taken(0, 0));
        due(1, x.keep(0, 0));
        due(3, x.taken(0, 0));
        due(1, x.keep(5, 0));
        due(3, x.taken(5, 3));
        row(x, 1, 2, 7);
        due(1, x.keep(1, -1));
        due(-11, x.put(1, 0, 1));
        due(1, x.keep(0, -1));
        due(-11, x.taken(0, 0));
        due(1, x.keep(0, -1));
        row(x, 1, 2, 7);
        due(1, x.keep(1, 0));
        due(-12, x.put(1, 0, 1));
        due(NO, x.element(1, 0));
    }

    private static void promise35() {
        TelegramFeelings x = fresh();
        due(-1, x.row(-1, 0, 1));
        due(-1, x.row(6, 0, 1));
        due(-1, x.row(0, -1, 1));
        due(-1, x.row(0, 5, 1));
        due(-1, x.row(0, 0, 61));
        due(-1, x.row(0, 5, -1));
        due(-1, x.row(6, 0, -1));
        due(-14, x.row(0, 0, -1));
        due(-14, x.row(0, 4, Integer.MIN_VALUE));
        due(-11, x.put(0, 0, 0));
        for (int sort = 0; sort < 5; sort++) {
            due(1, x.row(sort, sort, 60));
            for (int i = 0; i < 60; i++) {
                due(0, x.element(sort, i));
            }
            due(NO, x.element(sort, 60));
            x.put(sort, 59, 1);
            x.put(sort, 0, 1);
            // anew, all are 0
            due(1, x.row(sort, sort, 60));
            due(0, x.element(sort, 59));
            due(0, x.element(sort, 0));
        }
        due(1, x.row(0, 3, 0));
        due(-13, x.put(0, 0, 0));
        due(NO, x.element(0, 0));
        x.body(0);
        x.keep(0, 0);
        due(1, x.row(0, 0, 2));
        due(0, x.element(0, 1));
        due(-12, x.taken(0, 0));
    }

    private static void promise36() {
        TelegramFeelings x = fresh();
        due(-1, x.put(-1, 0, 0));
        due(-1, x.put(6, 0, 0));
        due(-11, x.put(0, -1, 0));
        x.body(0);
        x.keep(0, 0);
        due(-12, x.put(0, -1, 0));
        x.row(0, 0, 3);
        due(-13, x.put(0, -1, 0));
        due(-13, x.put(0, 3, 0));
        due(-13, x.put(0, Integer.MAX_VALUE, 0));
        long[] vs = {0, 1, -1, 127, 128, 255, 256, 300, 32767, 32768, 65535, 65536, 2147483647L, 2147483648L, 4294967295L,
            4294967296L, Long.MAX_VALUE, Long.MIN_VALUE, 1L << 40};
        for (int sort = 0; sort < 5; sort++) {
            x.row(1, sort, 2);
            for (long v : vs) {
                due(1, x.put(1, 1, v));
                long want = sort == 0 ? (byte) v : sort == 1 ? (short) v : sort == 2 ? (int) v : sort == 3 ? v : v != 0 ? 1 : 0;
                due(want, x.element(1, 1));
                due(0, x.element(1, 0));
            }
        }
    }

    private static void promise37() {
        TelegramFeelings x = fresh();
        due(NO, x.element(-1, 0));
        due(NO, x.element(6, 0));
        due(NO, x.element(0, 0));
        x.body(0);
        x.keep(0, 0);
        due(NO, x.element(0, 0));
        row(x, 0, 3, 5, Long.MAX_VALUE, -7);
        due(5, x.element(0, 0));
        due(Long.MAX_VALUE, x.element(0, 1));
        due(-7, x.element(0, 2));
        due(NO, x.element(0, 3));
        due(NO, x.element(0, -1));
        due(NO, x.element(0, Integer.MIN_VALUE));
        // a shorter ROW hides nothing behind its end
        x.row(0, 3, 1);
        due(NO, x.element(0, 1));
        x.row(0, 3, 3);
        due(0, x.element(0, 2));
    }

    private static void promise38() {
        TelegramFeelings x = fresh();
        due(-1, x.shift(-1, 0, 0, 0, 0));
        due(-1, x.shift(0, 0, 6, 0, 0));
        due(-11, x.shift(0, 0, 1, 0, 0));
        row(x, 0, 2, 1, 2, 3, 4, 5);
        due(-11, x.shift(0, 0, 1, 0, 0));
        due(-11, x.shift(1, 0, 0, 0, 0));
        x.body(0);
        x.keep(2, 0);
        due(-11, x.shift(1, 0, 2, 0, 0));
        due(-12, x.shift(0, 0, 2, 0, 0));
        due(-12, x.shift(2, 0, 0, 0, 0));
        due(-12, x.shift(2, 0, 2, 0, 0));
        row(x, 3, 3, 1, 2);
        due(-12, x.shift(0, 0, 3, 0, -1));
        row(x, 1, 2, 7, 8, 9);
        due(-13, x.shift(0, 0, 1, 0, -1));
        due(-13, x.shift(0, -1, 1, 0, 1));
        due(-13, x.shift(0, 0, 1, -1, 1));
        due(-13, x.shift(0, 0, 1, 0, 4));
        due(-13, x.shift(0, 4, 1, 0, 2));
        due(-13, x.shift(0, 0, 1, 2, 2));
        due(-13, x.shift(0, 6, 1, 0, 0));
        due(-13, x.shift(0, 0, 1, 4, 0));
        due(-13, x.shift(0, Integer.MAX_VALUE, 1, 0, 1));
        due(-13, x.shift(0, 1, 1, 1, Integer.MAX_VALUE));
        due(-13, x.shift(0, 0, 1, Integer.MAX_VALUE, Integer.MAX_VALUE));
        due(-13, x.shift(0, 0, 1, 0, Integer.MIN_VALUE));
        for (int i = 0; i < 3; i++) {
            due(7 + i, x.element(1, i));
        }
        due(0, x.shift(0, 5, 1, 3, 0));
        due(2, x.shift(0, 3, 1, 1, 2));
        due(7, x.element(1, 0));
        due(4, x.element(1, 1));
        due(5, x.element(1, 2));
        due(4, x.element(0, 3));
        // the same ROW, both ways
        due(4, x.shift(0, 0, 0, 1, 4));
        int[] up = {1, 1, 2, 3, 4};
        for (int i = 0; i < 5; i++) {
            due(up[i], x.element(0, i));
        }
        row(x, 0, 2, 1, 2, 3, 4, 5);
        due(4, x.shift(0, 1, 0, 0, 4));
        int[] down = {2, 3, 4, 5, 5};
        for (int i = 0; i < 5; i++) {
            due(down[i], x.element(0, i));
        }
    }

    private static void promise39() {
        int[] above = {-1, 0, 0, 2, 1, 3, 0, 6};
        TelegramFeelings x = fresh();
        for (int kind = 0; kind < 8; kind++) {
            x.body(7 - kind);
        }
        due(-1, x.taken(-1, 0));
        due(-1, x.taken(6, 0));
        due(-1, x.taken(0, -1));
        due(-1, x.taken(0, 8));
        due(-11, x.taken(0, 0));
        x.row(0, 0, 1);
        due(-12, x.taken(0, 0));
        for (int body = 0; body < 8; body++) {
            x.keep(1, body);
            int kind = 7 - body;
            for (int k = 0; k < 8; k++) {
                boolean under = false;
                for (int at = kind; at >= 0; at = above[at]) {
                    under |= at == k;
                }
                due(under ? kind : -12, x.taken(1, k));
            }
        }
    }

    private static void promise40() {
        TelegramFeelings x = five();
        due(-1, x.count(-1));
        due(-1, x.count(6));
        due(5, x.count(0));
        x.person(1);
        x.person(1);
        due(2, x.count(1));
        x.feed('c');
        x.feed('(');
        due(2, x.count(2));
        x.law();
        due(0, x.count(2));
        due(9, x.count(3));
        x.undo();
        due(8, x.count(3));
        x.body(0);
        x.body(5);
        due(2, x.count(4));
        x.act(1, 3, 5);
        due(10, x.count(5));
        x.act(0, 0, 5);
        due(1, x.count(5));
        x.act(9, 0, 5);
        due(0, x.count(5));
    }

    public static void main(String[] args) throws Exception {
        for (promise = 1; promise <= 40; promise++) {
            PromisesTest.class.getDeclaredMethod("promise" + promise).invoke(null);
        }
        System.out.println(asked + " answers asked for, " + wrong + " not as due");
        if (wrong != 0) {
            System.exit(1);
        }
    }
}
