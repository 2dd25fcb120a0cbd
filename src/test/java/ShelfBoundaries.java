/** Promises 31 to 40: each sentence that names a boundary. */
public final class ShelfBoundaries extends Boundary {
    private static final String[] SORTS = {"bytes", "shorts", "ints", "longs", "booleans"};

    public static void main(String[] args) {
        body();
        actNone();
        actWraps();
        acts();
        trace();
        keep();
        rowArguments();
        row();
        putArguments();
        putBits();
        element();
        shiftArguments();
        shiftPlaces();
        shift();
        takenArguments();
        taken();
        count();
        end(31, 40);
    }

    // ---- body

    private static void body() {
        test(31, "a KIND (0 .. 7): -1 and 8 are BAD, and nothing changes", () -> {
            refused(Boundary::rich, BAD, x -> x.body(-1));
            refused(Boundary::rich, BAD, x -> x.body(8));
            refused(Boundary::fresh, BAD, x -> x.body(MIN));
            refused(Boundary::fresh, BAD, x -> x.body(MAX));
        });
        test(31, "a KIND (0 .. 7): 0 and 7 are allowed", () -> {
            TelegramFeelings x = fresh();
            due(0, x.body(0));
            due(1, x.body(7));
            x.keep(0, 0);
            x.keep(1, 1);
            due(0, x.taken(0, 0));
            due(7, x.taken(1, 0));
        });
        test(31, "BODIES 0 .. 49 are kept by call: its number", () -> {
            TelegramFeelings x = fresh();
            for (int i = 0; i < 50; i++) {
                due(i, x.body(i % 8));
                due(i + 1, x.count(4));
            }
            for (int i = 0; i < 50; i++) {
                x.keep(0, i);
                due(i % 8, x.taken(0, 0));
            }
        });
        test(31, "FULL (50), and nothing changes", () -> {
            due(50, manyBodies().count(4));
            refused(Boundary::manyBodies, FULL, x -> x.body(0));
            refused(Boundary::manyBodies, FULL, x -> x.body(7));
        });
        test(31, "of BAD and FULL, BAD is named first", () -> {
            refused(Boundary::manyBodies, BAD, x -> x.body(-1));
            refused(Boundary::manyBodies, BAD, x -> x.body(8));
        });
    }

    // ---- act

    /** rich() has BODIES 0 and 1, and a TRACE. */
    private static void noAct(int body, int act) {
        TelegramFeelings x = rich();
        due(1, x.count(5) > 0 ? 1 : 0);
        due(0, x.act(body, act, 7));
        due(0, x.count(5));
        for (int i = 0; i < 24; i++) {
            due(BAD, x.trace(i));
        }
        due(2, x.count(4));
    }

    private static void actNone() {
        test(32, "0, and no TRACE then: no such BODY (none yet)", () -> {
            refused(Boundary::fresh, 0, x -> x.act(0, 0, 1));
            refused(Boundary::manyPeople, 0, x -> x.act(0, 3, 1));
        });
        test(32, "0, and no TRACE then: no such BODY (-1, the number behind the last one)", () -> {
            noAct(-1, 0);
            noAct(2, 0);
            noAct(49, 1);
            noAct(50, 2);
            noAct(MIN, 3);
            noAct(MAX, 3);
            TelegramFeelings x = manyBodies();
            due(7, x.act(0, 0, 7));
            due(0, x.act(50, 0, 7));
            due(0, x.count(5));
        });
        test(32, "0, and no TRACE then: no such ACT (0 .. 3: -1 and 4)", () -> {
            noAct(0, -1);
            noAct(0, 4);
            noAct(1, MIN);
            noAct(1, MAX);
        });
        test(32, "0, and no TRACE then: neither BODY nor ACT", () -> {
            noAct(2, 4);
            noAct(-1, -1);
        });
        test(32, "0, and no TRACE then: nothing else changes", () -> {
            for (int[] none : new int[][] {{-1, 0}, {2, 0}, {50, 3}, {0, -1}, {0, 4}}) {
                alike(() -> rich(false, true), () -> {
                    TelegramFeelings x = rich();
                    due(0, x.act(none[0], none[1], 7));
                    return x;
                });
            }
        });
        test(32, "BODIES 0 and 49, ACTS 0 and 3 are allowed", () -> {
            TelegramFeelings x = manyBodies();
            due(7, x.act(0, 0, 7));
            due(1, x.count(5));
            due(7 * 2 - 1, x.act(0, 3, 7));
            // BODY 49 is of KIND 1
            due(7 + 49 + 3, x.act(49, 0, 7));
            due((7 + 49 + 3) * 2 - (1 ^ 49), x.act(49, 3, 7));
        });
    }

    /** BODIES 0 .. 7 of KINDS 7 .. 0: so BODY 7 - k is of KIND k. */
    private static TelegramFeelings kinds() {
        TelegramFeelings x = fresh();
        for (int kind = 7; kind >= 0; kind--) {
            x.body(kind);
        }
        return x;
    }

    private static void actWraps() {
        int[] ends = {MAX, MAX - 1, MIN, MIN + 1, 0x3fffffff, 0x40000000, -0x40000000, -0x40000001, 0x2aaaaaaa, 0x55555555, -1, 0};
        test(32, "x, an int that wraps: x + n", () -> {
            for (int x : ends) {
                due(x + 7, kinds().act(7, 0, x));
                due(x + 6 + 3, kinds().act(6, 0, x));
            }
        });
        test(32, "an int that wraps: says(x) * 2, and of COW", () -> {
            for (int x : ends) {
                due((x + 7) * 2, kinds().act(7, 1, x));
                due((x + 6 + 3) * 2, kinds().act(6, 1, x));
                due((x + 1) * 2, kinds().act(1, 0, x));
                due((x + 1) * 2 * 2, kinds().act(1, 1, x));
            }
        });
        test(32, "an int that wraps: -super.costs(x), super.costs(x + 1)", () -> {
            for (int x : ends) {
                due(-((x + 5) * 2), kinds().act(5, 1, x));
                due(-((x + 1 + 4) * 2), kinds().act(4, 1, x));
            }
        });
        test(32, "an int that wraps: super.errs(x) * 3, less says(2)", () -> {
            for (int x : ends) {
                due(x ^ 7, kinds().act(7, 2, x));
                due((x ^ 4) * 3, kinds().act(4, 2, x));
                due((x ^ 2) * 3 - (2 + 2), kinds().act(2, 2, x));
            }
        });
        test(32, "an int that wraps: costs(x) - errs(1), super.tells(x) + 1 and ^ 5", () -> {
            for (int x : ends) {
                due((x + 7) * 2 - (1 ^ 7), kinds().act(7, 3, x));
                due(((x + 3 + 3) * 2 - (1 ^ 3)) ^ 5, kinds().act(3, 3, x));
                due(-((x + 1 + 2) * 2) - ((1 ^ 2) * 3 - 4) + 1, kinds().act(2, 3, x));
            }
        });
        test(32, "an int that wraps: PENCIL's super.costs(x) + errs(2), super.says(x) - 1", () -> {
            for (int x : ends) {
                due(x * 2 - 1, kinds().act(0, 0, x));
                due((x * 2 - 1) * 2 + 2, kinds().act(0, 1, x));
                due((x * 2 - 1) * 2 + 2 - 1, kinds().act(0, 3, x));
            }
        });
    }

    private static void acts() {
        test(32, "an act changes THE TRACE alone", () -> {
            TelegramFeelings x = rich();
            TelegramFeelings y = rich();
            x.act(1, 3, 9);
            for (int what = 0; what < 10; what++) {
                for (int number = 0; number < 6; number++) {
                    due(y.of(number, what), x.of(number, what));
                }
            }
            for (int what = 0; what < 5; what++) {
                due(y.led(what), x.led(what));
                due(y.count(what), x.count(what));
            }
            for (int shelf = 0; shelf < 6; shelf++) {
                due(y.element(shelf, 0), x.element(shelf, 0));
            }
        });
    }

    // ---- trace

    /** THE TRACE of an ACT of a KIND, from its first place on, and behind its end. */
    private static void ran(int kind, int act, int... numbers) {
        TelegramFeelings x = kinds();
        x.act(7 - kind, act, 5);
        due(numbers.length, x.count(5));
        for (int i = 0; i < numbers.length; i++) {
            due(numbers[i], x.trace(i));
        }
        due(BAD, x.trace(numbers.length));
        due(BAD, x.trace(-1));
    }

    private static void trace() {
        test(33, "the i-th body: nothing yet: BAD", () -> {
            refused(Boundary::fresh, BAD, x -> x.trace(0));
            refused(Boundary::manyBodies, BAD, x -> x.trace(0));
        });
        test(33, "the i-th body: -1 and the place behind the last one are BAD, and nothing changes", () -> {
            due(10, rich().count(5));
            refused(Boundary::rich, BAD, x -> x.trace(-1));
            refused(Boundary::rich, BAD, x -> x.trace(10));
            refused(Boundary::rich, BAD, x -> x.trace(MIN));
            refused(Boundary::rich, BAD, x -> x.trace(MAX));
        });
        test(33, "the i-th body: 0 and the last one are allowed", () -> {
            refused(Boundary::rich, 61, x -> x.trace(0));
            refused(Boundary::rich, 1, x -> x.trace(9));
        });
        test(33, "the first 24 are kept: no act of these KINDS runs more than 10, 23 and 24 are BAD", () -> {
            int most = 0;
            for (int kind = 0; kind < 8; kind++) {
                for (int act = 0; act < 4; act++) {
                    TelegramFeelings x = kinds();
                    x.act(7 - kind, act, 5);
                    most = Math.max(most, x.count(5));
                    due(1, x.trace(x.count(5) - 1) > 0 ? 1 : 0);
                    due(BAD, x.trace(x.count(5)));
                    due(BAD, x.trace(23));
                    due(BAD, x.trace(24));
                    due(BAD, x.trace(25));
                }
            }
            due(10, most);
        });
        test(33, "as they began: says", () -> {
            ran(0, 0, 1);
            ran(1, 0, 20, 1);
            ran(2, 0, 1);
            ran(3, 0, 1);
            ran(4, 0, 20, 1);
            ran(5, 0, 1);
            ran(6, 0, 70, 1);
            ran(7, 0, 81, 70, 1);
        });
        test(33, "as they began: costs", () -> {
            ran(0, 1, 10, 1);
            ran(1, 1, 10, 20, 1);
            ran(2, 1, 30, 10, 1);
            ran(3, 1, 41, 30, 10, 1);
            ran(4, 1, 10, 20, 1);
            ran(5, 1, 41, 30, 10, 1);
            ran(6, 1, 10, 70, 1);
            ran(7, 1, 80, 10, 81, 70, 1, 11);
        });
        test(33, "as they began: errs", () -> {
            ran(0, 2, 11);
            ran(1, 2, 11);
            ran(2, 2, 11);
            ran(3, 2, 40, 11);
            ran(4, 2, 11);
            ran(5, 2, 60, 40, 11, 1);
            ran(6, 2, 11);
            ran(7, 2, 11);
        });
        test(33, "as they began: tells", () -> {
            ran(0, 3, 2, 10, 1, 11);
            ran(1, 3, 2, 10, 20, 1, 11);
            ran(2, 3, 2, 30, 10, 1, 11);
            ran(3, 3, 2, 41, 30, 10, 1, 40, 11);
            ran(4, 3, 50, 2, 10, 20, 1, 11);
            ran(5, 3, 61, 2, 41, 30, 10, 1, 60, 40, 11, 1);
            ran(6, 3, 2, 10, 70, 1, 11);
            ran(7, 3, 2, 80, 10, 81, 70, 1, 11, 11);
        });
        test(33, "in the latest act() alone: a shorter TRACE hides nothing behind its end", () -> {
            TelegramFeelings x = kinds();
            x.act(2, 3, 5);
            due(10, x.count(5));
            x.act(7, 0, 5);
            due(1, x.count(5));
            due(1, x.trace(0));
            for (int i = 1; i < 10; i++) {
                due(BAD, x.trace(i));
            }
        });
    }

    // ---- keep

    private static void keep() {
        test(34, "SHELVES 0 .. 5: -1 and 6 are BAD, 0 and 5 are allowed", () -> {
            refused(Boundary::rich, BAD, x -> x.keep(-1, 0));
            refused(Boundary::rich, BAD, x -> x.keep(6, 0));
            refused(Boundary::rich, BAD, x -> x.keep(MIN, -1));
            refused(Boundary::rich, BAD, x -> x.keep(MAX, -1));
            due(1, rich().keep(0, 0));
            due(1, rich().keep(5, 0));
        });
        test(34, "a BODY: -2 and the number behind the last one are BAD, and nothing changes", () -> {
            refused(Boundary::rich, BAD, x -> x.keep(0, -2));
            refused(Boundary::rich, BAD, x -> x.keep(0, 2));
            refused(Boundary::rich, BAD, x -> x.keep(3, MIN));
            refused(Boundary::rich, BAD, x -> x.keep(3, MAX));
            refused(Boundary::manyBodies, BAD, x -> x.keep(3, 50));
            refused(Boundary::fresh, BAD, x -> x.keep(3, 0));
        });
        test(34, "a BODY: -1 (nothing), 0 and the last one are allowed", () -> {
            TelegramFeelings x = manyBodies();
            due(1, x.keep(0, 0));
            due(0, x.taken(0, 0));
            due(1, x.keep(0, 49));
            due(1, x.taken(0, 0));
            due(1, x.keep(0, -1));
            due(NOTHING, x.taken(0, 0));
        });
        test(34, "a SHELF holds nothing: what it held is gone", () -> {
            for (int shelf = 0; shelf < 6; shelf++) {
                TelegramFeelings x = rich();
                due(1, x.keep(shelf, -1));
                same(shelf(fresh(), shelf), shelf(x, shelf));
            }
            // nothing, with no BODY yet
            due(1, fresh().keep(0, -1));
            due(1, Boundary.row(fresh(), 0, 0, 1).keep(0, -1));
        });
        test(34, "a SHELF holds a BODY in the place of a ROW", () -> {
            TelegramFeelings x = rich();
            due(1, x.keep(0, 0));
            due(UNLIKE, x.wire(0, 0));
            due(UNLIKE, x.put(0, 0, 0));
            due(NO, x.element(0, 0));
            due(5, x.taken(0, 0));
            // the other ones are as they were
            same(shelf(rich(), 1) + shelf(rich(), 2) + shelf(rich(), 3), shelf(x, 1) + shelf(x, 2) + shelf(x, 3));
        });
        test(34, "one BODY on several SHELVES", () -> {
            TelegramFeelings x = manyBodies();
            for (int shelf = 0; shelf < 6; shelf++) {
                due(1, x.keep(shelf, 9));
                due(1, x.taken(shelf, 1));
            }
            due(50, x.count(4));
        });
    }

    // ---- row

    private static void rowArguments() {
        test(35, "SHELVES 0 .. 5: -1 and 6 are BAD, 0 and 5 are allowed", () -> {
            refused(Boundary::rich, BAD, x -> x.row(-1, 0, 1));
            refused(Boundary::rich, BAD, x -> x.row(6, 0, 1));
            refused(Boundary::rich, BAD, x -> x.row(MIN, 0, 1));
            refused(Boundary::rich, BAD, x -> x.row(MAX, 0, 1));
            due(1, rich().row(0, 2, 1));
            due(1, rich().row(5, 2, 1));
        });
        test(35, "BAD (sort): -1 and 5 are BAD, and nothing changes; 0 and 4 are allowed", () -> {
            refused(Boundary::rich, BAD, x -> x.row(0, -1, 1));
            refused(Boundary::rich, BAD, x -> x.row(0, 5, 1));
            refused(Boundary::rich, BAD, x -> x.row(0, MIN, 1));
            refused(Boundary::rich, BAD, x -> x.row(0, MAX, 1));
            due(1, rich().row(0, 0, 1));
            due(1, rich().row(0, 4, 1));
        });
        test(35, "BAD (n above 60): 61 is BAD, and nothing changes; 0 and 60 are allowed", () -> {
            for (int sort = 0; sort < 5; sort++) {
                int s = sort;
                refused(Boundary::rich, BAD, x -> x.row(0, s, 61));
                refused(Boundary::rich, BAD, x -> x.row(3, s, MAX));
                TelegramFeelings x = rich();
                due(1, x.row(3, s, 0));
                due(NO, x.element(3, 0));
                due(1, x.row(3, s, 60));
                due(0, x.element(3, 59));
                due(NO, x.element(3, 60));
            }
        });
        test(35, "-14 a size below 0, and nothing changes", () -> {
            for (int sort = 0; sort < 5; sort++) {
                int s = sort;
                refused(Boundary::rich, NO_SIZE, x -> x.row(0, s, -1));
                refused(Boundary::rich, NO_SIZE, x -> x.row(3, s, MIN));
            }
        });
        test(35, "of BAD and -14, BAD is named first", () -> {
            refused(Boundary::rich, BAD, x -> x.row(0, 5, -1));
            refused(Boundary::rich, BAD, x -> x.row(0, -1, -1));
            refused(Boundary::rich, BAD, x -> x.row(6, 0, -1));
            refused(Boundary::rich, BAD, x -> x.row(-1, 0, MIN));
        });
    }

    private static void row() {
        test(35, "elements, 0 at first (false), in the place of others too", () -> {
            for (int sort = 0; sort < 5; sort++) {
                TelegramFeelings x = fresh();
                for (int again = 0; again < 2; again++) {
                    due(1, x.row(2, sort, 60));
                    for (int i = 0; i < 60; i++) {
                        due(0, x.element(2, i));
                        due(1, x.put(2, i, 1));
                    }
                }
                due(1, x.row(2, 4 - sort, 3));
                due(0, x.element(2, 0));
                due(0, x.element(2, 2));
                due(NO, x.element(2, 3));
            }
        });
        test(35, "a ROW that grew shorter and longer again holds nothing of what it held", () -> {
            TelegramFeelings x = Boundary.row(fresh(), 0, 3, 7, 8, 9);
            x.row(0, 3, 1);
            due(0, x.element(0, 0));
            due(NO, x.element(0, 1));
            x.row(0, 3, 3);
            due(0, x.element(0, 1));
            due(0, x.element(0, 2));
        });
        test(35, "a SHELF holds a ROW in the place of a BODY", () -> {
            TelegramFeelings x = rich();
            due(1, x.row(2, 0, 1));
            due(0, x.element(2, 0));
            due(UNLIKE, x.taken(2, 0));
            due(1, x.wire(2, 3));
        });
        test(35, "the other SHELVES are as they were", () -> {
            TelegramFeelings x = rich();
            x.row(0, 2, 9);
            same(shelf(rich(), 1) + shelf(rich(), 2) + shelf(rich(), 3), shelf(x, 1) + shelf(x, 2) + shelf(x, 3));
        });
    }

    // ---- put

    private static void putArguments() {
        test(36, "SHELVES 0 .. 5: -1 and 6 are BAD, 0 and 5 are allowed", () -> {
            refused(Boundary::rich, BAD, x -> x.put(-1, 0, 1));
            refused(Boundary::rich, BAD, x -> x.put(6, 0, 1));
            refused(Boundary::rich, BAD, x -> x.put(MIN, 0, 1));
            refused(Boundary::rich, BAD, x -> x.put(MAX, 0, 1));
            due(1, Boundary.row(fresh(), 0, 0, 1).put(0, 0, 2));
            due(1, Boundary.row(fresh(), 5, 0, 1).put(5, 0, 2));
        });
        test(36, "-11 nothing is there; -12 it is of another kind (a BODY); nothing changes", () -> {
            refused(Boundary::rich, NOTHING, x -> x.put(3, 0, 1));
            refused(Boundary::rich, UNLIKE, x -> x.put(2, 0, 1));
        });
        test(36, "-13 a place that is not there: -1 and the size, and nothing changes", () -> {
            refused(Boundary::rich, NO_PLACE, x -> x.put(0, -1, 1));
            refused(Boundary::rich, NO_PLACE, x -> x.put(0, 3, 1));
            refused(Boundary::rich, NO_PLACE, x -> x.put(0, MIN, 1));
            refused(Boundary::rich, NO_PLACE, x -> x.put(0, MAX, 1));
            refused(Boundary::rich, NO_PLACE, x -> x.put(4, 2, 1));
        });
        test(36, "-13: a ROW of no elements has no place", () -> refused(Boundary::rich, NO_PLACE, x -> x.put(5, 0, 1)));
        test(36, "places 0 and the last one are allowed, 59 of 60", () -> {
            TelegramFeelings x = fresh();
            x.row(0, 2, 60);
            due(1, x.put(0, 0, 5));
            due(1, x.put(0, 59, 6));
            due(NO_PLACE, x.put(0, 60, 7));
            due(5, x.element(0, 0));
            due(0, x.element(0, 1));
            due(0, x.element(0, 58));
            due(6, x.element(0, 59));
        });
        test(36, "of BAD, -11, -12, -13 the one named first", () -> {
            refused(Boundary::rich, BAD, x -> x.put(6, -1, 1));
            refused(Boundary::rich, NOTHING, x -> x.put(3, -1, 1));
            refused(Boundary::rich, NOTHING, x -> x.put(3, 60, 1));
            refused(Boundary::rich, UNLIKE, x -> x.put(2, -1, 1));
            refused(Boundary::rich, UNLIKE, x -> x.put(2, 60, 1));
        });
    }

    private static void keeps(int sort, long put, long kept) {
        TelegramFeelings x = fresh();
        x.row(0, sort, 3);
        due(1, x.put(0, 1, put));
        due(kept, x.element(0, 1));
        due(0, x.element(0, 0));
        due(0, x.element(0, 2));
    }

    private static void putBits() {
        test(36, "what is put in keeps its lowest bits: a byte's 8", () -> {
            keeps(0, 127, 127);
            keeps(0, -128, -128);
            keeps(0, 128, -128);
            keeps(0, -129, 127);
            keeps(0, 255, -1);
            keeps(0, 256, 0);
            keeps(0, 300, 44);
            keeps(0, Long.MAX_VALUE, -1);
            keeps(0, Long.MIN_VALUE, 0);
            keeps(0, (1L << 32) + 5, 5);
        });
        test(36, "what is put in keeps its lowest bits: a short's 16", () -> {
            keeps(1, 32767, 32767);
            keeps(1, -32768, -32768);
            keeps(1, 32768, -32768);
            keeps(1, -32769, 32767);
            keeps(1, 65535, -1);
            keeps(1, 65536, 0);
            keeps(1, Long.MAX_VALUE, -1);
            keeps(1, Long.MIN_VALUE, 0);
            keeps(1, (1L << 32) + 300, 300);
        });
        test(36, "what is put in keeps its lowest bits: an int's 32", () -> {
            keeps(2, MAX, MAX);
            keeps(2, MIN, MIN);
            keeps(2, MAX + 1L, MIN);
            keeps(2, MIN - 1L, MAX);
            keeps(2, (1L << 32) - 1, -1);
            keeps(2, 1L << 32, 0);
            keeps(2, Long.MAX_VALUE, -1);
            keeps(2, Long.MIN_VALUE, 0);
        });
        test(36, "what is put in: a long keeps all", () -> {
            keeps(3, Long.MAX_VALUE, Long.MAX_VALUE);
            keeps(3, Long.MIN_VALUE + 1, Long.MIN_VALUE + 1);
            keeps(3, Long.MIN_VALUE, Long.MIN_VALUE);
            keeps(3, 1L << 40, 1L << 40);
            keeps(3, -1, -1);
        });
        test(36, "a boolean: whether it is not 0; 1 or 0", () -> {
            keeps(4, 0, 0);
            keeps(4, 1, 1);
            keeps(4, -1, 1);
            keeps(4, 2, 1);
            keeps(4, 256, 1);
            keeps(4, 1L << 32, 1);
            keeps(4, Long.MAX_VALUE, 1);
            keeps(4, Long.MIN_VALUE, 1);
        });
    }

    // ---- element

    private static void element() {
        test(37, "SHELVES 0 .. 5: Long.MIN_VALUE: BAD, 0 and 5 are allowed", () -> {
            refused(Boundary::rich, NO, x -> x.element(-1, 0));
            refused(Boundary::rich, NO, x -> x.element(6, 0));
            refused(Boundary::rich, NO, x -> x.element(MIN, 0));
            refused(Boundary::rich, NO, x -> x.element(MAX, 0));
            due(7, Boundary.row(fresh(), 0, 0, 7).element(0, 0));
            due(7, Boundary.row(fresh(), 5, 0, 7).element(5, 0));
        });
        test(37, "Long.MIN_VALUE: -11 to -13: nothing, a BODY, a place that is not there", () -> {
            refused(Boundary::rich, NO, x -> x.element(3, 0));
            refused(Boundary::rich, NO, x -> x.element(2, 0));
            refused(Boundary::rich, NO, x -> x.element(0, -1));
            refused(Boundary::rich, NO, x -> x.element(0, 3));
            refused(Boundary::rich, NO, x -> x.element(4, MIN));
            refused(Boundary::rich, NO, x -> x.element(4, MAX));
        });
        test(37, "Long.MIN_VALUE: a ROW of no elements", () -> {
            for (int sort = 0; sort < 5; sort++) {
                due(NO, Boundary.row(fresh(), 0, sort).element(0, 0));
            }
        });
        test(37, "places 0 and the last one are allowed", () -> {
            refused(Boundary::rich, -7, x -> x.element(4, 0));
            refused(Boundary::rich, Long.MAX_VALUE, x -> x.element(4, 1));
            refused(Boundary::rich, 3, x -> x.element(0, 2));
        });
    }

    // ---- shift

    /** SHELF 0: ints 1 .. 5; SHELF 1: ints 7 8 9; SHELF 2: a BODY; SHELF 3: nothing; SHELF 4: longs; SHELF 5: none. */
    private static TelegramFeelings rows() {
        TelegramFeelings x = fresh();
        x.body(0);
        Boundary.row(x, 0, 2, 1, 2, 3, 4, 5);
        Boundary.row(x, 1, 2, 7, 8, 9);
        x.keep(2, 0);
        Boundary.row(x, 4, 3, 1, 2);
        Boundary.row(x, 5, 2);
        return x;
    }

    private static void holds(TelegramFeelings x, int shelf, long... v) {
        for (int i = 0; i < v.length; i++) {
            due(v[i], x.element(shelf, i));
        }
        due(NO, x.element(shelf, v.length));
    }

    private static void shiftArguments() {
        test(38, "SHELVES 0 .. 5, both: -1 and 6 are BAD, and nothing changes", () -> {
            refused(ShelfBoundaries::rows, BAD, x -> x.shift(-1, 0, 1, 0, 1));
            refused(ShelfBoundaries::rows, BAD, x -> x.shift(6, 0, 1, 0, 1));
            refused(ShelfBoundaries::rows, BAD, x -> x.shift(0, 0, -1, 0, 1));
            refused(ShelfBoundaries::rows, BAD, x -> x.shift(0, 0, 6, 0, 1));
            refused(ShelfBoundaries::rows, BAD, x -> x.shift(MIN, 0, MAX, 0, 1));
        });
        test(38, "SHELVES 0 and 5 are allowed", () -> {
            TelegramFeelings x = Boundary.row(Boundary.row(fresh(), 0, 1, 4), 5, 1, 6);
            due(1, x.shift(0, 0, 5, 0, 1));
            holds(x, 5, 4);
            due(1, Boundary.row(x, 5, 1, 8).shift(5, 0, 0, 0, 1));
            holds(x, 0, 8);
        });
        test(38, "-11 (either), and nothing changes", () -> {
            refused(ShelfBoundaries::rows, NOTHING, x -> x.shift(3, 0, 1, 0, 1));
            refused(ShelfBoundaries::rows, NOTHING, x -> x.shift(0, 0, 3, 0, 1));
            refused(ShelfBoundaries::rows, NOTHING, x -> x.shift(3, 0, 3, 0, 0));
        });
        test(38, "-12 (no ROWS, or of unlike sorts), and nothing changes", () -> {
            refused(ShelfBoundaries::rows, UNLIKE, x -> x.shift(2, 0, 1, 0, 1));
            refused(ShelfBoundaries::rows, UNLIKE, x -> x.shift(0, 0, 2, 0, 1));
            refused(ShelfBoundaries::rows, UNLIKE, x -> x.shift(2, 0, 2, 0, 0));
            refused(ShelfBoundaries::rows, UNLIKE, x -> x.shift(0, 0, 4, 0, 1));
            refused(ShelfBoundaries::rows, UNLIKE, x -> x.shift(4, 0, 0, 0, 0));
            for (int sort = 0; sort < 5; sort++) {
                for (int other = 0; other < 5; other++) {
                    TelegramFeelings x = Boundary.row(Boundary.row(fresh(), 0, sort, 1), 1, other, 0);
                    due(sort == other ? 1 : UNLIKE, x.shift(0, 0, 1, 0, 1));
                    due(sort == other ? 1 : 0, x.element(1, 0));
                }
            }
        });
        test(38, "of BAD, -11, -12, -13 the one named first", () -> {
            refused(ShelfBoundaries::rows, BAD, x -> x.shift(3, 0, 6, 0, 1));
            refused(ShelfBoundaries::rows, BAD, x -> x.shift(6, 0, 3, 0, -1));
            refused(ShelfBoundaries::rows, BAD, x -> x.shift(-1, 0, 2, 9, 1));
            refused(ShelfBoundaries::rows, NOTHING, x -> x.shift(3, 0, 2, 0, 1));
            refused(ShelfBoundaries::rows, NOTHING, x -> x.shift(2, 0, 3, 0, 1));
            refused(ShelfBoundaries::rows, NOTHING, x -> x.shift(3, -1, 0, 0, 1));
            refused(ShelfBoundaries::rows, NOTHING, x -> x.shift(0, 0, 3, 0, -1));
            refused(ShelfBoundaries::rows, UNLIKE, x -> x.shift(0, 0, 4, 0, -1));
            refused(ShelfBoundaries::rows, UNLIKE, x -> x.shift(0, -1, 2, 0, 1));
            refused(ShelfBoundaries::rows, UNLIKE, x -> x.shift(2, 0, 2, 9, 1));
        });
    }

    private static void shiftPlaces() {
        test(38, "-13 (n below 0, too), and nothing changes", () -> {
            refused(ShelfBoundaries::rows, NO_PLACE, x -> x.shift(0, 0, 1, 0, -1));
            refused(ShelfBoundaries::rows, NO_PLACE, x -> x.shift(0, 2, 1, 1, -1));
            refused(ShelfBoundaries::rows, NO_PLACE, x -> x.shift(0, 0, 1, 0, MIN));
            refused(ShelfBoundaries::rows, NO_PLACE, x -> x.shift(0, 5, 1, 3, -1));
            refused(ShelfBoundaries::rows, NO_PLACE, x -> x.shift(5, 0, 5, 0, -1));
        });
        test(38, "-13: from -1 on, or to -1 on", () -> {
            refused(ShelfBoundaries::rows, NO_PLACE, x -> x.shift(0, -1, 1, 0, 1));
            refused(ShelfBoundaries::rows, NO_PLACE, x -> x.shift(0, 0, 1, -1, 1));
            refused(ShelfBoundaries::rows, NO_PLACE, x -> x.shift(0, -1, 1, 0, 0));
            refused(ShelfBoundaries::rows, NO_PLACE, x -> x.shift(0, 0, 1, -1, 0));
            refused(ShelfBoundaries::rows, NO_PLACE, x -> x.shift(0, MIN, 1, 0, 1));
            refused(ShelfBoundaries::rows, NO_PLACE, x -> x.shift(0, 0, 1, MIN, 1));
        });
        test(38, "-13: one place behind the end of either ROW", () -> {
            refused(ShelfBoundaries::rows, NO_PLACE, x -> x.shift(0, 5, 1, 0, 1));
            refused(ShelfBoundaries::rows, NO_PLACE, x -> x.shift(0, 4, 1, 0, 2));
            refused(ShelfBoundaries::rows, NO_PLACE, x -> x.shift(0, 0, 1, 3, 1));
            refused(ShelfBoundaries::rows, NO_PLACE, x -> x.shift(0, 0, 1, 2, 2));
            refused(ShelfBoundaries::rows, NO_PLACE, x -> x.shift(0, 0, 1, 0, 4));
            refused(ShelfBoundaries::rows, NO_PLACE, x -> x.shift(1, 0, 0, 0, 4));
            refused(ShelfBoundaries::rows, NO_PLACE, x -> x.shift(0, 0, 0, 1, 5));
            refused(ShelfBoundaries::rows, NO_PLACE, x -> x.shift(0, 0, 5, 0, 1));
            refused(ShelfBoundaries::rows, NO_PLACE, x -> x.shift(5, 0, 0, 0, 1));
        });
        test(38, "-13: places and n that would wrap", () -> {
            refused(ShelfBoundaries::rows, NO_PLACE, x -> x.shift(0, MAX, 1, 0, 1));
            refused(ShelfBoundaries::rows, NO_PLACE, x -> x.shift(0, 0, 1, MAX, 1));
            refused(ShelfBoundaries::rows, NO_PLACE, x -> x.shift(0, 1, 1, 1, MAX));
            refused(ShelfBoundaries::rows, NO_PLACE, x -> x.shift(0, MAX, 1, MAX, MAX));
            refused(ShelfBoundaries::rows, NO_PLACE, x -> x.shift(0, MAX, 1, MAX, 0));
            refused(ShelfBoundaries::rows, NO_PLACE, x -> x.shift(0, MAX, 1, MAX, MIN));
        });
        test(38, "n 0: at a place that is there, and right behind the end; not beyond", () -> {
            refused(ShelfBoundaries::rows, 0, x -> x.shift(0, 0, 1, 0, 0));
            refused(ShelfBoundaries::rows, 0, x -> x.shift(0, 5, 1, 3, 0));
            refused(ShelfBoundaries::rows, 0, x -> x.shift(5, 0, 5, 0, 0));
            refused(ShelfBoundaries::rows, NO_PLACE, x -> x.shift(0, 6, 1, 0, 0));
            refused(ShelfBoundaries::rows, NO_PLACE, x -> x.shift(0, 0, 1, 4, 0));
            refused(ShelfBoundaries::rows, NO_PLACE, x -> x.shift(5, 1, 5, 0, 0));
        });
    }

    private static void shift() {
        test(38, "n elements, to the ends of both ROWS: n", () -> {
            TelegramFeelings x = rows();
            due(3, x.shift(0, 2, 1, 0, 3));
            holds(x, 1, 3, 4, 5);
            holds(x, 0, 1, 2, 3, 4, 5);
            due(1, x.shift(0, 0, 1, 2, 1));
            holds(x, 1, 3, 4, 1);
            due(2, x.shift(1, 1, 0, 3, 2));
            holds(x, 0, 1, 2, 3, 4, 1);
        });
        test(38, "to the same ROW, as they all were before: up and down", () -> {
            TelegramFeelings x = rows();
            due(4, x.shift(0, 0, 0, 1, 4));
            holds(x, 0, 1, 1, 2, 3, 4);
            x = rows();
            due(4, x.shift(0, 1, 0, 0, 4));
            holds(x, 0, 2, 3, 4, 5, 5);
            x = rows();
            due(5, x.shift(0, 0, 0, 0, 5));
            holds(x, 0, 1, 2, 3, 4, 5);
            x = rows();
            due(3, x.shift(0, 0, 0, 2, 3));
            holds(x, 0, 1, 2, 1, 2, 3);
        });
        for (int i = 0; i < 5; i++) {
            int sort = i;
            test(38, "60 elements, a ROW of " + SORTS[sort], () -> {
                TelegramFeelings x = fresh();
                x.row(0, sort, 60);
                x.row(1, sort, 60);
                for (int k = 0; k < 60; k++) {
                    x.put(0, k, sort == 4 ? k % 2 : k - 30);
                }
                due(60, x.shift(0, 0, 1, 0, 60));
                due(59, x.shift(0, 0, 0, 1, 59));
                for (int k = 0; k < 60; k++) {
                    due(sort == 4 ? k % 2 : k - 30, x.element(1, k));
                    due(k == 0 ? sort == 4 ? 0 : -30 : sort == 4 ? (k - 1) % 2 : k - 31, x.element(0, k));
                }
                due(NO_PLACE, x.shift(0, 0, 1, 0, 61));
            });
        }
    }

    // ---- taken

    private static void takenArguments() {
        test(39, "SHELVES 0 .. 5: -1 and 6 are BAD, 0 and 5 are allowed", () -> {
            refused(Boundary::rich, BAD, x -> x.taken(-1, 0));
            refused(Boundary::rich, BAD, x -> x.taken(6, 0));
            refused(Boundary::rich, BAD, x -> x.taken(MIN, 0));
            refused(Boundary::rich, BAD, x -> x.taken(MAX, 0));
            TelegramFeelings x = kinds();
            x.keep(0, 3);
            x.keep(5, 4);
            due(4, x.taken(0, 0));
            due(3, x.taken(5, 0));
        });
        test(39, "KIND k (0 .. 7): -1 and 8 are BAD, and nothing changes; 0 and 7 are allowed", () -> {
            refused(Boundary::rich, BAD, x -> x.taken(2, -1));
            refused(Boundary::rich, BAD, x -> x.taken(2, 8));
            refused(Boundary::rich, BAD, x -> x.taken(2, MIN));
            refused(Boundary::rich, BAD, x -> x.taken(2, MAX));
            refused(Boundary::rich, 7, x -> x.taken(2, 0));
            refused(Boundary::rich, 7, x -> x.taken(2, 7));
        });
        test(39, "-11 nothing is there, and nothing changes", () -> {
            refused(Boundary::rich, NOTHING, x -> x.taken(3, 0));
            refused(Boundary::rich, NOTHING, x -> x.taken(3, 7));
        });
        test(39, "-12 it is of another kind: a ROW, a BODY not under k; nothing changes", () -> {
            refused(Boundary::rich, UNLIKE, x -> x.taken(0, 0));
            refused(Boundary::rich, UNLIKE, x -> x.taken(1, 7));
            refused(Boundary::rich, UNLIKE, x -> x.taken(4, 0));
            refused(Boundary::rich, UNLIKE, x -> x.taken(5, 0));
            refused(Boundary::rich, UNLIKE, x -> x.taken(2, 1));
            refused(Boundary::rich, UNLIKE, x -> x.taken(2, 5));
        });
        test(39, "of BAD, -11, -12, BAD is named first", () -> {
            refused(Boundary::rich, BAD, x -> x.taken(3, 8));
            refused(Boundary::rich, BAD, x -> x.taken(3, -1));
            refused(Boundary::rich, BAD, x -> x.taken(0, 8));
            refused(Boundary::rich, BAD, x -> x.taken(0, -1));
        });
    }

    private static void taken() {
        test(39, "a BODY of KIND k, or under it: its KIND", () -> {
            String[] under = {"01234567", "14", "235", "35", "4", "5", "67", "7"};
            for (int kind = 0; kind < 8; kind++) {
                TelegramFeelings x = kinds();
                x.keep(0, 7 - kind);
                for (int k = 0; k < 8; k++) {
                    due(under[k].indexOf('0' + kind) >= 0 ? kind : UNLIKE, x.taken(0, k));
                }
            }
        });
    }

    // ---- count

    private static void count() {
        test(40, "what 0 .. 5: -1 and 6 are BAD, and nothing changes", () -> {
            refused(Boundary::rich, BAD, x -> x.count(-1));
            refused(Boundary::rich, BAD, x -> x.count(6));
            refused(Boundary::fresh, BAD, x -> x.count(MIN));
            refused(Boundary::fresh, BAD, x -> x.count(MAX));
        });
        test(40, "what 0 .. 5: 0 and 5 are allowed", () -> {
            refused(Boundary::rich, 5, x -> x.count(0));
            refused(Boundary::rich, 10, x -> x.count(5));
        });
        test(40, "nothing yet: 0; full: 12 WORDS, 6 PEOPLE, 120 bytes, 40 changes, 50 BODIES", () -> {
            for (int what = 0; what < 6; what++) {
                due(0, fresh().count(what));
            }
            due(12, manyWords().count(0));
            due(6, manyPeople().count(1));
            due(120, longTape().count(2));
            due(50, manyBodies().count(4));
            TelegramFeelings x = fresh();
            for (int i = 0; i < 45; i++) {
                x.mend(0, FORM, 1 + i % 2);
                due(Math.min(i + 1, 40), x.count(3));
            }
        });
        test(40, "a FULL one that is refused isn't counted", () -> {
            TelegramFeelings x = manyWords();
            x.word(1, 1);
            due(12, x.count(0));
            x = manyPeople();
            x.person(1);
            due(6, x.count(1));
            x = longTape();
            x.feed(1);
            due(120, x.count(2));
            x = manyBodies();
            x.body(1);
            due(50, x.count(4));
        });
        test(40, "changes that may be UNDONE: not those that are", () -> {
            TelegramFeelings x = rich();
            int may = x.count(3);
            due(0, x.redo());
            due(may + 1, x.count(3));
            due(may, x.undo());
            due(may, x.count(3));
        });
    }
}
