/** Promises 1 to 6: each sentence that names a boundary. */
public final class WordsBoundaries extends Boundary {

    public static void main(String[] args) {
        newObject();
        constants();
        wordLimits();
        wordNumbers();
        wordsArguments();
        wordsEnds();
        wordsNotAsTheyMayBe();
        wordsFull();
        person();
        mendValues();
        mendSlip();
        mendNumbers();
        mendSame();
        of();
        end(1, 6);
    }

    // ---- a new object

    private static void newObject() {
        test(1, "An office, no words, nobody", () -> {
            due(0, fresh().count(0));
            due(0, fresh().count(1));
            for (int what = COST; what <= FEELS; what++) {
                due(BAD, fresh().of(0, what));
            }
            due(BAD, fresh().price(0, 300));
            due(BAD, fresh().tooDear(0));
        });
        test(1, "NIGHT 0 at first, ERR 1 at first, FORM 10 at first", () -> {
            due(0, fresh().of(0, NIGHT));
            due(1, fresh().of(0, ERR));
            due(10, fresh().of(0, FORM));
        });
        test(1, "SHELVES each hold nothing at first", () -> {
            TelegramFeelings x = fresh();
            for (int shelf = 0; shelf < 6; shelf++) {
                due(NOTHING, x.taken(shelf, 0));
                due(NOTHING, x.put(shelf, 0, 0));
                due(NOTHING, x.wire(shelf, 0));
                due(NO, x.element(shelf, 0));
            }
        });
        test(1, "nothing is LED, no change, no image, no body, no trace, an empty TAPE", () -> {
            TelegramFeelings x = fresh();
            for (int what = 0; what < 5; what++) {
                due(0, x.led(what));
            }
            for (int what = 0; what < 6; what++) {
                due(0, x.count(what));
            }
            due(STATE, x.undo());
            due(STATE, x.redo());
            due(STATE, x.back());
            due(BAD, x.trace(0));
            due(0, x.act(0, 0, 1));
            due(-100, x.law());
        });
        test(1, "no WORDS: none is RIGHT, none has a bit, nothing is drawn", () -> {
            TelegramFeelings x = fresh();
            due(NOT, x.say(0, -1));
            due(NOT, x.allFor(999, 0));
            due(63, x.lacks(0));
            due(NOT, x.lacks(1));
            due(0, x.drawn(1, 3020, 0));
        });
        test(1, "what one object is told, another doesn't know", () -> {
            String before = shelf(fresh(), 0);
            TelegramFeelings x = rich();
            due(5, x.count(0));
            due(0, fresh().count(0));
            due(0, fresh().of(0, NIGHT));
            same(before, shelf(fresh(), 0));
        });
    }

    private static void constants() {
        test(1, "BAD = -1, NOT = -2, FULL = -3, STATE = -5, VOID = -2000000000", () -> {
            due(-1, TelegramFeelings.BAD);
            due(-2, TelegramFeelings.NOT);
            due(-3, TelegramFeelings.FULL);
            due(-5, TelegramFeelings.STATE);
            due(-2000000000, TelegramFeelings.VOID);
        });
    }

    // ---- word

    private static void wordLimits() {
        test(2, "COST (1 .. 9): 0 and 10 are BAD, and nothing changes", () -> {
            refused(Boundary::rich, BAD, x -> x.word(0, 5));
            refused(Boundary::rich, BAD, x -> x.word(10, 5));
            refused(Boundary::fresh, BAD, x -> x.word(-1, 5));
            refused(Boundary::fresh, BAD, x -> x.word(MIN, 5));
            refused(Boundary::fresh, BAD, x -> x.word(MAX, 5));
        });
        test(2, "COST (1 .. 9): 1 and 9 are allowed", () -> {
            TelegramFeelings x = fresh();
            due(0, x.word(1, 5));
            due(1, x.word(9, 5));
            due(1, x.of(0, COST));
            due(9, x.of(1, COST));
        });
        test(2, "SENSE (bits 0 .. 63): -1 and 64 are BAD, and nothing changes", () -> {
            refused(Boundary::rich, BAD, x -> x.word(5, -1));
            refused(Boundary::rich, BAD, x -> x.word(5, 64));
            refused(Boundary::fresh, BAD, x -> x.word(5, MIN));
            refused(Boundary::fresh, BAD, x -> x.word(5, MAX));
        });
        test(2, "SENSE (bits 0 .. 63): 0 and 63 are allowed", () -> {
            TelegramFeelings x = fresh();
            due(0, x.word(5, 0));
            due(1, x.word(5, 63));
            due(0, x.of(0, SENSE));
            due(63, x.of(1, SENSE));
        });
    }

    private static void wordNumbers() {
        test(2, "WORDS 0 .. 11, as they come: its number", () -> {
            TelegramFeelings x = fresh();
            for (int i = 0; i < 12; i++) {
                due(i, x.word(1 + i % 9, 2 * i));
                due(i + 1, x.count(0));
            }
            for (int i = 0; i < 12; i++) {
                due(1 + i % 9, x.of(i, COST));
                due(2 * i, x.of(i, SENSE));
            }
        });
        test(2, "SORT 1 at first, LONG 5 at first, SLIP itself at first", () -> {
            TelegramFeelings x = manyWords();
            for (int i = 0; i < 12; i++) {
                due(1, x.of(i, SORT));
                due(5, x.of(i, LONG));
                due(i, x.of(i, SLIP));
            }
        });
        test(2, "FULL: 12, and nothing changes", () -> {
            due(12, manyWords().count(0));
            refused(Boundary::manyWords, FULL, x -> x.word(1, 1));
        });
        test(2, "of BAD and FULL, BAD is named first", () -> {
            refused(Boundary::manyWords, BAD, x -> x.word(0, 1));
            refused(Boundary::manyWords, BAD, x -> x.word(1, 64));
        });
        test(2, "a WORD that comes is no CHANGE (all numbers of mend())", () -> {
            TelegramFeelings x = rich();
            int before = x.count(3);
            due(5, x.word(1, 1));
            due(before, x.count(3));
            // what may be DONE AGAIN still may be
            due(0, x.redo());
        });
    }

    // ---- words

    /** A ROW of bytes on SHELF 3, with nothing else there. */
    private static TelegramFeelings withRow(long... v) {
        return row(fresh(), 3, 0, v);
    }

    private static TelegramFeelings twelveThrees() {
        TelegramFeelings x = fresh();
        x.row(3, 0, 36);
        for (int i = 0; i < 12; i++) {
            x.put(3, 3 * i, 1 + i % 9);
            x.put(3, 3 * i + 1, i);
            x.put(3, 3 * i + 2, i % 3);
        }
        return x;
    }

    private static void wordsArguments() {
        test(3, "n (1 .. 12): 0 and 13 are BAD, and nothing changes", () -> {
            refused(WordsBoundaries::twelveThrees, BAD, x -> x.words(3, 0, 0));
            refused(WordsBoundaries::twelveThrees, BAD, x -> x.words(3, 0, 13));
            refused(WordsBoundaries::twelveThrees, BAD, x -> x.words(3, 0, MIN));
            refused(WordsBoundaries::twelveThrees, BAD, x -> x.words(3, 0, MAX));
        });
        test(3, "n (1 .. 12): 1 and 12 are allowed", () -> {
            due(1, twelveThrees().words(3, 0, 1));
            TelegramFeelings x = twelveThrees();
            due(12, x.words(3, 0, 12));
            due(12, x.count(0));
            for (int i = 0; i < 12; i++) {
                due(1 + i % 9, x.of(i, COST));
                due(i, x.of(i, SENSE));
                due(i % 3, x.of(i, SORT));
                due(5, x.of(i, LONG));
                due(i, x.of(i, SLIP));
            }
        });
        test(3, "SHELVES 0 .. 5: -1 and 6 are BAD, 0 and 5 are allowed", () -> {
            refused(Boundary::rich, BAD, x -> x.words(-1, 0, 1));
            refused(Boundary::rich, BAD, x -> x.words(6, 0, 1));
            refused(Boundary::fresh, BAD, x -> x.words(MIN, 0, 1));
            refused(Boundary::fresh, BAD, x -> x.words(MAX, 0, 1));
            due(1, row(fresh(), 0, 0, 1, 1, 1).words(0, 0, 1));
            due(1, row(fresh(), 5, 0, 1, 1, 1).words(5, 0, 1));
        });
        test(3, "-12 (no ROW of bytes), and nothing changes", () -> {
            for (int sort = 1; sort < 5; sort++) {
                int other = sort;
                refused(() -> row(fresh(), 3, other, 1, 1, 1), UNLIKE, x -> x.words(3, 0, 1));
                refused(() -> row(fresh(), 3, other), UNLIKE, x -> x.words(3, 0, 1));
            }
            refused(Boundary::rich, UNLIKE, x -> x.words(2, 0, 1));
        });
        test(3, "of BAD and -12, BAD is named first", () -> {
            refused(Boundary::rich, BAD, x -> x.words(1, 0, 0));
            refused(Boundary::rich, BAD, x -> x.words(1, 0, 13));
            refused(Boundary::rich, BAD, x -> x.words(2, -1, 13));
            // a SHELF that holds nothing
            refused(Boundary::rich, BAD, x -> x.words(3, 0, 0));
            refused(Boundary::rich, BAD, x -> x.words(3, -1, 13));
        });
        test(3, "a refusal is told ahead of how many came: -12 also with i below 0", () ->
            refused(Boundary::rich, UNLIKE, x -> x.words(1, -1, 1)));
        test(3, "a SHELF that holds nothing is missing: 0, and nothing changes", () -> {
            refused(Boundary::rich, 0, x -> x.words(3, 0, 1));
            refused(Boundary::fresh, 0, x -> x.words(3, 0, 12));
            refused(Boundary::rich, 0, x -> x.words(3, -1, 1));
        });
        test(3, "0 with i below 0", () -> {
            refused(WordsBoundaries::twelveThrees, 0, x -> x.words(3, -1, 1));
            refused(WordsBoundaries::twelveThrees, 0, x -> x.words(3, -3, 12));
            refused(WordsBoundaries::twelveThrees, 0, x -> x.words(3, MIN, 12));
        });
        test(3, "from place i on: 0 is allowed, and the place of the last three", () -> {
            TelegramFeelings x = twelveThrees();
            due(1, x.words(3, 33, 1));
            due(3, x.of(0, COST));
            due(11, x.of(0, SENSE));
            due(2, x.of(0, SORT));
            due(1, x.words(3, 0, 1));
            due(1, x.of(1, COST));
            due(0, x.of(1, SENSE));
            due(0, x.of(1, SORT));
        });
    }

    private static void wordsEnds() {
        test(3, "it ends where the ROW ends: behind its last place nothing comes", () -> {
            refused(WordsBoundaries::twelveThrees, 0, x -> x.words(3, 36, 1));
            refused(WordsBoundaries::twelveThrees, 0, x -> x.words(3, 37, 12));
            refused(WordsBoundaries::twelveThrees, 0, x -> x.words(3, MAX, 12));
            refused(WordsBoundaries::twelveThrees, 0, x -> x.words(3, MAX - 2, 1));
        });
        test(3, "a ROW of no elements: 0", () -> refused(() -> withRow(), 0, x -> x.words(3, 0, 1)));
        test(3, "it ends where the ROW ends, within a three, too: those ahead came", () -> {
            refused(() -> withRow(1), 0, x -> x.words(3, 0, 1));
            refused(() -> withRow(1, 1), 0, x -> x.words(3, 0, 1));
            due(1, withRow(1, 1, 1).words(3, 0, 12));
            due(1, withRow(1, 1, 1, 1).words(3, 0, 12));
            due(1, withRow(1, 1, 1, 1, 1).words(3, 0, 12));
            due(2, withRow(1, 1, 1, 1, 1, 1).words(3, 0, 12));
            due(1, withRow(1, 1, 1, 1, 1, 1).words(3, 1, 12));
            refused(() -> withRow(1, 1, 1, 1, 1), 0, x -> x.words(3, 3, 1));
            refused(() -> withRow(1, 1, 1, 1, 1), 0, x -> x.words(3, 4, 1));
            due(1, twelveThrees().words(3, 33, 12));
        });
        test(3, "n of them: no more than told, though the ROW has more", () -> {
            TelegramFeelings x = twelveThrees();
            due(2, x.words(3, 0, 2));
            due(2, x.count(0));
        });
    }

    private static void wordsNotAsTheyMayBe() {
        test(3, "COST not as it may be (0, 10) ends it, 1 and 9 come", () -> {
            refused(() -> withRow(0, 1, 1, 1, 1, 1), 0, x -> x.words(3, 0, 2));
            refused(() -> withRow(10, 1, 1), 0, x -> x.words(3, 0, 1));
            refused(() -> withRow(-1, 1, 1), 0, x -> x.words(3, 0, 1));
            due(2, withRow(1, 1, 1, 9, 1, 1).words(3, 0, 2));
        });
        test(3, "SENSE not as it may be (-1, 64) ends it, 0 and 63 come", () -> {
            refused(() -> withRow(1, -1, 1, 1, 1, 1), 0, x -> x.words(3, 0, 2));
            refused(() -> withRow(1, 64, 1), 0, x -> x.words(3, 0, 1));
            due(2, withRow(1, 0, 1, 1, 63, 1).words(3, 0, 2));
        });
        test(3, "SORT not as it may be (-1, 3) ends it, 0, 1 and 2 come", () -> {
            refused(() -> withRow(1, 1, -1, 1, 1, 1), 0, x -> x.words(3, 0, 2));
            refused(() -> withRow(1, 1, 3), 0, x -> x.words(3, 0, 1));
            due(3, withRow(1, 1, 0, 1, 1, 1, 1, 1, 2).words(3, 0, 3));
        });
        test(3, "one is not as it may be: those ahead came, those behind don't", () -> {
            TelegramFeelings x = withRow(4, 5, 0, 10, 1, 1, 6, 7, 2);
            due(1, x.words(3, 0, 3));
            due(1, x.count(0));
            due(4, x.of(0, COST));
            due(5, x.of(0, SENSE));
            due(0, x.of(0, SORT));
            due(BAD, x.of(1, COST));
        });
        test(3, "a ROW's byte keeps its lowest bits ahead of being taken for COST, SENSE, SORT", () -> {
            TelegramFeelings x = withRow(256 + 7, 512 + 63, -256 + 2);
            due(1, x.words(3, 0, 1));
            due(7, x.of(0, COST));
            due(63, x.of(0, SENSE));
            due(2, x.of(0, SORT));
        });
    }

    private static void wordsFull() {
        test(3, "it ends where WORDS are FULL: those ahead came", () -> {
            TelegramFeelings x = twelveThrees();
            for (int i = 0; i < 5; i++) {
                x.word(2, 3);
            }
            due(7, x.words(3, 0, 12));
            due(12, x.count(0));
            due(1, x.of(5, COST));
            due(6, x.of(11, SENSE));
            due(7, x.of(11, COST));
        });
        test(3, "WORDS are FULL: 0, and nothing changes", () ->
            refused(() -> row(manyWords(), 3, 0, 1, 1, 1), 0, x -> x.words(3, 0, 1)));
        test(3, "WORDS that come from a ROW are no CHANGES", () -> {
            TelegramFeelings x = row(rich(), 3, 0, 1, 1, 1);
            int before = x.count(3);
            due(1, x.words(3, 0, 1));
            due(before, x.count(3));
            due(0, x.redo());
        });
    }

    // ---- person

    private static void person() {
        test(4, "PURSE (0 .. 999): -1 and 1000 are BAD, and nothing changes", () -> {
            refused(Boundary::rich, BAD, x -> x.person(-1));
            refused(Boundary::rich, BAD, x -> x.person(1000));
            refused(Boundary::fresh, BAD, x -> x.person(MIN));
            refused(Boundary::fresh, BAD, x -> x.person(MAX));
        });
        test(4, "PURSE (0 .. 999): 0 and 999 are allowed", () -> {
            TelegramFeelings x = fresh();
            due(0, x.person(0));
            due(1, x.person(999));
            due(0, x.of(0, PURSE));
            due(999, x.of(1, PURSE));
        });
        test(4, "PEOPLE 0 .. 5, as they come: its number; FEELS 0 at first", () -> {
            TelegramFeelings x = fresh();
            for (int i = 0; i < 6; i++) {
                due(i, x.person(100 + i));
                due(i + 1, x.count(1));
                due(100 + i, x.of(i, PURSE));
                due(0, x.of(i, FEELS));
            }
        });
        test(4, "FULL: 6, and nothing changes", () -> {
            due(6, manyPeople().count(1));
            refused(Boundary::manyPeople, FULL, x -> x.person(5));
        });
        test(4, "of BAD and FULL, BAD is named first", () -> {
            refused(Boundary::manyPeople, BAD, x -> x.person(-1));
            refused(Boundary::manyPeople, BAD, x -> x.person(1000));
        });
        test(4, "one that comes is no CHANGE", () -> {
            TelegramFeelings x = rich();
            int before = x.count(3);
            due(2, x.person(1));
            due(before, x.count(3));
            due(0, x.redo());
        });
    }

    // ---- mend

    private static final String[] NAMES = {"COST (1 .. 9)", "SENSE (bits 0 .. 63)", "SORT (0 .. 2)", "LONG (1 .. 9 letters)",
        "SLIP (one that is there)", "PURSE (0 .. 999)", "FEELS (bits 0 .. 63)", "NIGHT (0, 1)", "ERR (0 .. 12)",
        "FORM (1 .. 20 letters)"};
    // of rich(), that has five WORDS
    private static final int[] MOST = {9, 63, 2, 9, 4, 999, 63, 1, 12, 20};

    private static void mendValues() {
        for (int i = 0; i < 10; i++) {
            int what = i;
            test(5, NAMES[what] + ": one below the least and one above the greatest are BAD, and nothing changes", () -> {
                refused(Boundary::rich, BAD, x -> x.mend(0, what, LEAST[what] - 1));
                refused(Boundary::rich, BAD, x -> x.mend(0, what, MOST[what] + 1));
                refused(Boundary::rich, BAD, x -> x.mend(0, what, MIN));
                refused(Boundary::rich, BAD, x -> x.mend(0, what, MAX));
            });
            test(5, NAMES[what] + ": the least and the greatest are allowed; what it was", () -> {
                TelegramFeelings x = rich();
                int was = x.of(0, what);
                due(was, x.mend(0, what, MOST[what]));
                due(MOST[what], x.of(0, what));
                due(MOST[what], x.mend(0, what, LEAST[what]));
                due(LEAST[what], x.of(0, what));
                due(LEAST[what], x.mend(0, what, MOST[what]));
            });
        }
    }

    private static void mendSlip() {
        test(5, "SLIP (one that is there): with one WORD, itself alone", () -> {
            TelegramFeelings x = fresh();
            x.word(1, 1);
            due(0, x.mend(0, SLIP, 0));
            due(BAD, x.mend(0, SLIP, 1));
            x.word(1, 1);
            due(0, x.mend(0, SLIP, 1));
            due(BAD, x.mend(0, SLIP, 2));
        });
        test(5, "SLIP (one that is there): with twelve WORDS, 11 is allowed, 12 is BAD", () -> {
            refused(Boundary::manyWords, BAD, x -> x.mend(0, SLIP, 12));
            TelegramFeelings x = manyWords();
            due(0, x.mend(0, SLIP, 11));
            due(11, x.of(0, SLIP));
        });
    }

    private static void mendNumbers() {
        for (int i = COST; i <= SLIP; i++) {
            int what = i;
            test(5, NAMES[what] + " of a WORD: -1 and the number behind the last one are BAD, and nothing changes", () -> {
                refused(Boundary::rich, BAD, x -> x.mend(-1, what, 1));
                refused(Boundary::rich, BAD, x -> x.mend(5, what, 1));
                refused(Boundary::rich, BAD, x -> x.mend(MIN, what, 1));
                refused(Boundary::rich, BAD, x -> x.mend(MAX, what, 1));
                refused(Boundary::manyWords, BAD, x -> x.mend(12, what, 1));
            });
            test(5, NAMES[what] + " of a WORD: the last one is allowed; no WORDS: BAD", () -> {
                TelegramFeelings x = rich();
                int was = x.of(4, what);
                due(was, x.mend(4, what, 2));
                due(2, x.of(4, what));
                x = manyWords();
                due(x.of(11, what), x.mend(11, what, 2));
                due(2, x.of(11, what));
                refused(Boundary::fresh, BAD, y -> y.mend(0, what, 1));
                refused(Boundary::manyPeople, BAD, y -> y.mend(0, what, 1));
            });
        }
        for (int i = PURSE; i <= FEELS; i++) {
            int what = i;
            test(5, NAMES[what] + " of one: -1 and the number behind the last one are BAD, and nothing changes", () -> {
                refused(Boundary::rich, BAD, x -> x.mend(-1, what, 1));
                refused(Boundary::rich, BAD, x -> x.mend(2, what, 1));
                refused(Boundary::rich, BAD, x -> x.mend(MIN, what, 1));
                refused(Boundary::rich, BAD, x -> x.mend(MAX, what, 1));
                refused(Boundary::manyPeople, BAD, x -> x.mend(6, what, 1));
            });
            test(5, NAMES[what] + " of one: the last one is allowed; nobody: BAD", () -> {
                TelegramFeelings x = manyPeople();
                due(x.of(5, what), x.mend(5, what, 2));
                due(2, x.of(5, what));
                due(1, rich().mend(1, what, 1) >= 0 ? 1 : 0);
                refused(Boundary::fresh, BAD, y -> y.mend(0, what, 1));
                refused(Boundary::manyWords, BAD, y -> y.mend(0, what, 1));
            });
        }
        for (int i = NIGHT; i <= FORM; i++) {
            int what = i;
            test(5, NAMES[what] + " (number 0 for these, another: BAD)", () -> {
                refused(Boundary::rich, BAD, x -> x.mend(-1, what, 1));
                refused(Boundary::rich, BAD, x -> x.mend(1, what, 1));
                refused(Boundary::fresh, BAD, x -> x.mend(MIN, what, 1));
                refused(Boundary::fresh, BAD, x -> x.mend(MAX, what, 1));
                TelegramFeelings x = fresh();
                due(x.of(0, what), x.mend(0, what, 1));
                due(1, x.of(0, what));
            });
        }
        test(5, "what (0 .. 9): -1 and 10 are BAD, and nothing changes", () -> {
            refused(Boundary::rich, BAD, x -> x.mend(0, -1, 1));
            refused(Boundary::rich, BAD, x -> x.mend(0, 10, 1));
            refused(Boundary::rich, BAD, x -> x.mend(0, MIN, 1));
            refused(Boundary::rich, BAD, x -> x.mend(0, MAX, 1));
        });
    }

    private static void mendSame() {
        test(5, "telling the same number is none (no CHANGE): what it was, and nothing changes", () -> {
            for (int i = 0; i < 10; i++) {
                int what = i;
                int is = rich().of(0, what);
                refused(Boundary::rich, is, x -> x.mend(0, what, is));
            }
        });
        test(5, "one number becomes v, no other does", () -> {
            for (int what = 0; what < 10; what++) {
                TelegramFeelings x = rich();
                int v = x.of(0, what) == LEAST[what] ? LEAST[what] + 1 : LEAST[what];
                x.mend(0, what, v);
                TelegramFeelings y = rich();
                for (int w = 0; w < 10; w++) {
                    for (int number = 0; number < 5; number++) {
                        due(w == what && number == 0 ? v : y.of(number, w), x.of(number, w));
                    }
                }
            }
        });
    }

    // ---- of

    private static void of() {
        test(6, "what (0 to 9): -1 and 10 are BAD, 0 and 9 are allowed", () -> {
            refused(Boundary::rich, BAD, x -> x.of(0, -1));
            refused(Boundary::rich, BAD, x -> x.of(0, 10));
            refused(Boundary::fresh, BAD, x -> x.of(0, MIN));
            refused(Boundary::fresh, BAD, x -> x.of(0, MAX));
            refused(Boundary::rich, 2, x -> x.of(0, 0));
            refused(Boundary::rich, 10, x -> x.of(0, 9));
        });
        for (int i = 0; i < 10; i++) {
            int what = i;
            int many = what <= SLIP ? 5 : what <= FEELS ? 2 : 1;
            test(6, NAMES[what] + ": -1 and the number behind the last one are BAD, 0 and the last one are allowed", () -> {
                refused(Boundary::rich, BAD, x -> x.of(-1, what));
                refused(Boundary::rich, BAD, x -> x.of(many, what));
                due(BAD, rich().of(MIN, what));
                due(BAD, rich().of(MAX, what));
                due(1, rich().of(0, what) >= 0 ? 1 : 0);
                due(1, rich().of(many - 1, what) >= 0 ? 1 : 0);
            });
        }
        test(6, "no WORDS, nobody: BAD; 12 WORDS, 6 people: 11 and 5 are the last ones", () -> {
            for (int what = 0; what <= FEELS; what++) {
                due(BAD, fresh().of(0, what));
                due(BAD, (what <= SLIP ? manyPeople() : manyWords()).of(0, what));
                due(BAD, (what <= SLIP ? manyWords() : manyPeople()).of(what <= SLIP ? 12 : 6, what));
            }
            due(3, manyWords().of(11, COST));
            due(11, manyWords().of(11, SLIP));
            due(105, manyPeople().of(5, PURSE));
            due(0, manyPeople().of(5, FEELS));
        });
    }
}
