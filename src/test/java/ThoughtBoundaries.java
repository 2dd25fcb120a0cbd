/** Promises 10 to 14: each sentence that names a boundary. */
public final class ThoughtBoundaries extends Boundary {

    public static void main(String[] args) {
        wireArguments();
        wireEnds();
        wireRight();
        wireJoined();
        wirePrice();
        sayArguments();
        sayBits();
        sayCheapest();
        allFor();
        tooDear();
        yearArguments();
        yearRows();
        yearBest();
        end(10, 14);
    }

    private static TelegramFeelings fiveWith(long... telegram) {
        return row(five(), 0, 0, telegram);
    }

    // ---- wire

    private static void wireArguments() {
        telegramIsThere(10, false, (x, shelf) -> x.wire(shelf, 0));
        test(10, "what 0 .. 5: -1 and 6 are BAD, 0 and 5 are allowed", () -> {
            refused(Boundary::rich, BAD, x -> x.wire(0, -1));
            refused(Boundary::rich, BAD, x -> x.wire(0, 6));
            refused(Boundary::rich, BAD, x -> x.wire(0, MIN));
            refused(Boundary::rich, BAD, x -> x.wire(0, MAX));
            refused(() -> fiveWith(0, 1, 3), 6, x -> x.wire(0, 0));
            refused(() -> fiveWith(0, 1, 3), 2, x -> x.wire(0, 5));
        });
        test(10, "of BAD, -11, -12, BAD is named first", () -> {
            refused(Boundary::rich, BAD, x -> x.wire(3, 6));
            refused(Boundary::rich, BAD, x -> x.wire(1, -1));
            refused(Boundary::rich, BAD, x -> x.wire(2, 6));
            due(BAD, fresh().wire(0, 6));
        });
        for (int i = 0; i < 6; i++) {
            int what = i;
            test(10, "-11 and -12 whatever is asked, what " + what, () -> {
                due(NOTHING, rich().wire(3, what));
                due(UNLIKE, rich().wire(1, what));
                due(UNLIKE, rich().wire(2, what));
            });
        }
    }

    private static void empty(TelegramFeelings x) {
        for (int what = 0; what < 6; what++) {
            due(0, x.wire(0, what));
        }
    }

    private static void wireEnds() {
        test(10, "an empty TELEGRAM is not RIGHT, costs 0, is JOINED for 0 in 0 runs: a ROW of no elements", () -> {
            empty(fiveWith());
            empty(row(fresh(), 0, 0));
        });
        test(10, "an empty TELEGRAM: its first element is no WORD", () -> {
            empty(fiveWith(5, 0, 1));
            empty(fiveWith(-1, 0, 1));
            empty(fiveWith(127));
            empty(fiveWith(-128));
        });
        test(10, "an empty TELEGRAM: no WORDS yet, then one comes", () -> {
            TelegramFeelings x = row(fresh(), 0, 0, 0, 0);
            empty(x);
            x.word(3, 1);
            due(2, x.wire(0, 3));
            due(6, x.wire(0, 0));
        });
        test(10, "an empty TELEGRAM costs 0, by a law too", () -> {
            TelegramFeelings x = fiveWith();
            law(x, "50");
            empty(x);
        });
        test(10, "it ends with what is no WORD: the last WORD's number is one, the next isn't", () -> {
            due(3, fiveWith(0, 1, 4).wire(0, 3));
            due(2, fiveWith(0, 1, 5, 1).wire(0, 3));
            due(2, fiveWith(0, 1, -1, 1).wire(0, 3));
            due(2, fiveWith(0, 1, 12, 1).wire(0, 3));
            due(2, fiveWith(0, 1, 99, 1, 1, 1).wire(0, 3));
            due(5, fiveWith(0, 1, 5, 1).wire(0, 0));
            due(3, fiveWith(0, 1, 5, 4).wire(0, 1));
            due(1, fiveWith(0, 1, 5, 0).wire(0, 2));
            due(5, fiveWith(0, 1, 5, 1).wire(0, 0));
            due(1, fiveWith(0, 1, 5, 1).wire(0, 5));
        });
        test(10, "a ROW's byte keeps its lowest bits: 256 is WORD 0", () -> due(2, fiveWith(256, 257).wire(0, 3)));
        test(10, "WORDS (12 at most): 12 are, the thirteenth isn't", () -> {
            long[] rows = new long[13];
            rows[12] = 4;
            TelegramFeelings x = fiveWith(rows);
            due(12, x.wire(0, 3));
            due(24, x.wire(0, 0));
            due(1, x.wire(0, 1));
            x.put(0, 11, 4);
            due(12, x.wire(0, 3));
            due(26, x.wire(0, 0));
            due(17, x.wire(0, 1));
            x.row(0, 0, 60);
            due(12, x.wire(0, 3));
            due(24, x.wire(0, 0));
            due(6, x.wire(0, 5));
            x.row(0, 0, 11);
            due(11, x.wire(0, 3));
        });
        test(10, "WORDS (12 at most): RIGHT by those 12", () -> {
            TelegramFeelings x = fiveWith(0, 1, 1, 1, 1, 1, 1, 1, 1, 1, 1, 3, 0);
            due(1, x.wire(0, 2));
            x.put(0, 11, 0);
            due(0, x.wire(0, 2));
        });
    }

    private static void wireRight() {
        test(10, "RIGHT, if its first WORD is of SORT 0", () -> {
            due(1, fiveWith(0, 1).wire(0, 2));
            due(0, fiveWith(1, 1).wire(0, 2));
            due(0, fiveWith(1, 0).wire(0, 2));
            due(0, fiveWith(3, 1).wire(0, 2));
            due(0, fiveWith(1).wire(0, 2));
        });
        test(10, "RIGHT, if no other one is (of SORT 0)", () -> {
            due(0, fiveWith(0, 0, 1).wire(0, 2));
            due(0, fiveWith(0, 4, 1).wire(0, 2));
            due(0, fiveWith(0, 1, 0).wire(0, 2));
            due(0, fiveWith(0, 1, 3, 4).wire(0, 2));
            due(0, fiveWith(0, 1, 4, 1).wire(0, 2));
        });
        test(10, "RIGHT, if it has one of SORT 1 at least", () -> {
            due(0, fiveWith(0).wire(0, 2));
            due(0, fiveWith(4).wire(0, 2));
            due(1, fiveWith(4, 2).wire(0, 2));
            due(0, fiveWith(0, 3).wire(0, 2));
        });
        test(10, "RIGHT, if each of SORT 2 is right behind one of SORT 1 or 2", () -> {
            due(1, fiveWith(0, 1, 3).wire(0, 2));
            due(1, fiveWith(0, 1, 3, 3).wire(0, 2));
            due(1, fiveWith(0, 1, 3, 1, 3, 3).wire(0, 2));
            due(0, fiveWith(0, 3, 1).wire(0, 2));
            due(0, fiveWith(0, 3, 1, 3).wire(0, 2));
        });
    }

    /** A TELEGRAM of all WORDS, in their order, by COST and LONG; FORM. */
    private static TelegramFeelings joined(int form, int... costsAndLetters) {
        TelegramFeelings x = fresh();
        int many = costsAndLetters.length / 2;
        x.row(0, 0, many);
        for (int i = 0; i < many; i++) {
            x.word(costsAndLetters[2 * i], 1);
            x.mend(i, LONG, costsAndLetters[2 * i + 1]);
            x.put(0, i, i);
        }
        x.mend(0, FORM, form);
        return x;
    }

    private static void joins(int price, int runs, TelegramFeelings x) {
        due(price, x.wire(0, 4));
        due(runs, x.wire(0, 5));
    }

    private static void wireJoined() {
        test(10, "a run has no more letters than FORM: as many are allowed, one more isn't", () -> {
            joins(3, 1, joined(9, 2, 5, 3, 4));
            joins(5, 2, joined(8, 2, 5, 3, 4));
            joins(3, 1, joined(10, 2, 5, 3, 4));
            joins(4, 1, joined(12, 2, 5, 3, 4, 4, 3));
            joins(6, 2, joined(11, 2, 5, 3, 4, 4, 3));
        });
        test(10, "LONG (1 .. 9 letters), FORM (1 .. 20 letters): the least and the greatest", () -> {
            joins(5, 2, joined(1, 2, 1, 3, 1));
            joins(3, 1, joined(2, 2, 1, 3, 1));
            joins(3, 1, joined(20, 2, 9, 3, 9));
            joins(3 + 1, 2, joined(20, 2, 9, 3, 9, 1, 3));
            joins(3, 1, joined(20, 2, 9, 3, 9, 1, 2));
            joins(9, 1, joined(20, 1, 1, 2, 1, 3, 1, 4, 1, 5, 1, 6, 1, 7, 1, 8, 1, 9, 1, 1, 1, 2, 1, 3, 1));
        });
        test(10, "a WORD longer than FORM is a run by itself", () -> {
            joins(2, 1, joined(1, 2, 9));
            joins(7, 1, joined(4, 7, 5));
            joins(2 + 3, 2, joined(4, 2, 5, 3, 5));
            joins(2 + 3, 2, joined(4, 2, 5, 3, 1));
            joins(2 + 3, 2, joined(4, 2, 1, 3, 5));
            // 1 1 by each side of it
            joins(3 + 9 + 4, 3, joined(4, 2, 1, 3, 1, 9, 5, 4, 1, 1, 1));
        });
        test(10, "a WORD as long as FORM is a run by itself, too", () -> joins(5, 2, joined(5, 2, 5, 3, 1)));
        test(10, "a run is paid as the dearest WORD in it, wherever it stands", () -> {
            joins(9, 1, joined(15, 9, 5, 1, 5, 2, 5));
            joins(9, 1, joined(15, 1, 5, 9, 5, 2, 5));
            joins(9, 1, joined(15, 1, 5, 2, 5, 9, 5));
        });
        test(10, "the least PRICE so, though it has more runs", () -> {
            joins(1 + 9 + 1, 3, joined(10, 1, 5, 9, 5, 9, 5, 1, 5));
            joins(9 + 1, 2, joined(10, 9, 5, 9, 5, 1, 5));
        });
        test(10, "how many runs, by that way with fewest", () -> {
            TelegramFeelings x = joined(10, 1, 5, 1, 5, 1, 5, 1, 5, 1, 5);
            joins(3, 3, x);
            law(x, "0");
            joins(0, 3, x);
            x.mend(0, FORM, 20);
            joins(0, 2, x);
            x.mend(0, FORM, 4);
            joins(0, 5, x);
        });
        test(10, "one WORD: a run", () -> joins(7, 1, joined(10, 7, 5)));
        test(10, "12 WORDS JOINED", () -> {
            TelegramFeelings x = joined(1, 1, 1, 1, 1, 1, 1, 1, 1, 1, 1, 1, 1, 1, 1, 1, 1, 1, 1, 1, 1, 1, 1, 9, 1);
            joins(20, 12, x);
            x.mend(0, FORM, 2);
            joins(5 + 9, 6, x);
            x.mend(0, FORM, 11);
            joins(1 + 9, 2, x);
            x.mend(0, FORM, 12);
            joins(9, 1, x);
            // the greatest PRICE
            law(x, "9999");
            joins(99, 1, x);
            x.mend(0, FORM, 1);
            joins(99 * 12, 12, x);
            due(99 * 12, x.wire(0, 0));
        });
    }

    private static void wirePrice() {
        test(10, "the first WORD has none ahead (l 3, p 0), the others the SORT ahead", () -> {
            TelegramFeelings x = fiveWith(0, 1, 3, 2);
            law(x, "l*20+p");
            due(60 + 1 + 22 + 43, x.wire(0, 0));
        });
        test(10, "its PRICE is that of all its WORDS, at night by 2 each (cut)", () -> {
            TelegramFeelings x = fiveWith(0, 1, 2, 3);
            due(11, x.wire(0, 0));
            x.night();
            due(1 + 1 + 2 + 0, x.wire(0, 0));
            joins(1 + 2, 2, x);
        });
        test(10, "a PRICE is held within 0 .. 99 WORD by WORD", () -> {
            TelegramFeelings x = fiveWith(0, 1, 1);
            law(x, "p=1?0-50;p=2?150;1");
            due(1 + 0 + 99, x.wire(0, 0));
        });
    }

    // ---- say

    /** A who, and six whats of a bit each, COST 1. */
    private static TelegramFeelings seven() {
        return words(1, 0, 0, 1, 1, 1, 1, 2, 1, 1, 4, 1, 1, 8, 1, 1, 16, 1, 1, 32, 1);
    }

    private static void said(TelegramFeelings x, int yn, int price, int... words) {
        due(price, x.say(yn, -1));
        due(words.length, x.say(yn, -2));
        for (int k = 0; k < words.length; k++) {
            due(words[k], x.say(yn, k));
        }
        due(NOT, x.say(yn, words.length));
    }

    private static void sayArguments() {
        test(11, "yn (64 times the bits it has, and those it has not): -1 and 4096 are BAD, and nothing changes", () -> {
            refused(Boundary::rich, BAD, x -> x.say(-1, -1));
            refused(Boundary::rich, BAD, x -> x.say(4096, -1));
            refused(Boundary::rich, BAD, x -> x.say(MIN, 0));
            refused(Boundary::rich, BAD, x -> x.say(MAX, 0));
            due(BAD, fresh().say(-64, -1));
        });
        test(11, "yn: 0 and 4095 are allowed", () -> {
            refused(Boundary::five, 5, x -> x.say(0, -1));
            refused(Boundary::five, NOT, x -> x.say(4095, -1));
        });
        test(11, "k: -3 is BAD, -2 and -1 are allowed, and nothing changes", () -> {
            refused(Boundary::rich, BAD, x -> x.say(0, -3));
            refused(Boundary::rich, BAD, x -> x.say(0, MIN));
            refused(Boundary::five, 2, x -> x.say(0, -2));
            refused(Boundary::five, 5, x -> x.say(0, -1));
        });
        test(11, "the k-th WORD, from 0 to the last; NOT: there are not as many, too", () -> {
            TelegramFeelings x = five();
            due(0, x.say(0, 0));
            due(1, x.say(0, 1));
            refused(Boundary::five, NOT, y -> y.say(0, 2));
            refused(Boundary::five, NOT, y -> y.say(0, 6));
            refused(Boundary::five, NOT, y -> y.say(0, MAX));
        });
        test(11, "of BAD and NOT, BAD is named first", () -> {
            due(BAD, fresh().say(0, -3));
            due(BAD, fresh().say(4096, -1));
            due(BAD, five().say(65, -3));
            due(BAD, five().say(4096, 9));
        });
    }

    private static void sayBits() {
        test(11, "a bit that is to be said and not to be said: NOT", () -> {
            TelegramFeelings x = five();
            for (int bit = 0; bit < 6; bit++) {
                for (int k = -2; k < 2; k++) {
                    due(NOT, x.say(64 * (1 << bit) + (1 << bit), k));
                }
            }
            due(NOT, x.say(64 * 63 + 1, -1));
            due(NOT, x.say(64 + 63, -1));
        });
        test(11, "no WORDS: NOT", () -> {
            refused(Boundary::fresh, NOT, x -> x.say(0, -1));
            refused(Boundary::fresh, NOT, x -> x.say(0, -2));
            refused(Boundary::fresh, NOT, x -> x.say(0, 0));
        });
        test(11, "none is RIGHT: NOT (no who; no what)", () -> {
            refused(() -> words(1, 1, 1, 1, 2, 2), NOT, x -> x.say(0, -1));
            refused(() -> words(1, 1, 0, 1, 2, 2), NOT, x -> x.say(0, -1));
            refused(() -> words(1, 1, 0), NOT, x -> x.say(64, 0));
            due(2, words(1, 1, 0, 1, 2, 1).say(0, -1));
        });
        test(11, "all told bits and none of other told bits", () -> {
            said(five(), 64 * 24 + 1, 8, 4, 1, 3);
            said(five(), 64 * 7, 7, 0, 2);
            due(NOT, five().say(2, -1));
            due(NOT, five().say(64 * 32, -1));
            due(NOT, five().say(64 * 17, -1));
            due(NOT, five().say(64 * 8 + 17, -1));
        });
        test(11, "no bits told: the cheapest RIGHT one, without SENSE, too", () -> {
            said(words(5, 0, 0, 4, 0, 1), 0, 9, 0, 1);
            said(words(5, 0, 0, 4, 0, 1), 63, 9, 0, 1);
        });
    }

    private static void sayCheapest() {
        test(11, "6 WORDS at most: by six it may be said, by seven not", () -> {
            said(seven(), 64 * 31, 6, 0, 1, 2, 3, 4, 5);
            said(seven(), 64 * 62, 6, 0, 2, 3, 4, 5, 6);
            for (int k = -2; k < 7; k++) {
                due(NOT, seven().say(64 * 63, k));
            }
        });
        test(11, "WORDS may come again", () -> {
            TelegramFeelings x = words(1, 1, 0, 1, 2, 1, 1, 8, 2);
            law(x, "s=2&p<3?50;1");
            said(x, 64 * 8, 4, 0, 1, 1, 2);
            law(x, "s=2&p<5?50;1");
            said(x, 64 * 8, 6, 0, 1, 1, 1, 1, 2);
            // the seventh place is behind the last one
            law(x, "s=2&p<6?50;1");
            said(x, 64 * 8, 52, 0, 1, 2);
        });
        test(11, "how many WORDS (fewest of the cheapest)", () -> {
            TelegramFeelings x = seven();
            law(x, "0");
            said(x, 64, 0, 0, 1);
            said(x, 0, 0, 0, 1);
            said(x, 64 * 9, 0, 0, 1, 4);
        });
        test(11, "the cheapest, though it has more WORDS", () -> {
            // word 3 says both bits for 9
            said(words(1, 0, 0, 3, 1, 1, 3, 2, 1, 9, 3, 1), 64 * 3, 7, 0, 1, 2);
            // as dear: the fewer
            said(words(1, 0, 0, 3, 1, 1, 3, 2, 1, 6, 3, 1), 64 * 3, 7, 0, 3);
        });
        test(11, "of like ones the first by numbers", () -> {
            said(words(1, 0, 0, 1, 0, 0, 1, 1, 1, 1, 1, 1), 64, 2, 0, 2);
            said(words(1, 1, 1, 1, 1, 1, 1, 0, 0, 1, 0, 0), 64, 2, 2, 0);
            // 1 behind 2 would do as well, and 2 behind 1
            said(words(1, 0, 0, 1, 1, 1, 1, 2, 1), 64 * 3, 2 + 1, 0, 1, 2);
            // the first WORD weighs most
            said(words(2, 0, 0, 1, 0, 0, 2, 1, 1, 1, 1, 1), 64, 2, 1, 3);
            said(words(2, 0, 0, 1, 0, 0, 2, 1, 1, 3, 1, 1), 64, 3, 1, 2);
        });
        test(11, "of like ones the first by numbers, where they cost nothing", () -> {
            TelegramFeelings x = words(1, 0, 0, 1, 0, 0, 1, 0, 1, 1, 0, 1);
            law(x, "0");
            said(x, 0, 0, 0, 2);
            x.mend(0, SORT, 1);
            said(x, 0, 0, 1, 0);
        });
        test(11, "all six bits, by one WORD or by several", () -> {
            said(words(1, 63, 0, 2, 63, 1), 64 * 63, 3, 0, 1);
            said(words(1, 63, 0, 2, 0, 1), 64 * 63, 3, 0, 1);
            said(words(1, 0, 0, 2, 63, 1), 64 * 63, 3, 0, 1);
            said(words(1, 21, 0, 2, 42, 1), 64 * 63, 3, 0, 1);
            said(words(1, 63, 0, 2, 0, 1, 1, 0, 2), 64 * 63, 3, 0, 1);
            due(NOT, words(1, 31, 0, 2, 31, 1).say(64 * 63, -1));
        });
        test(11, "a change, a TEXT, the night, a WORD that comes: told anew", () -> {
            TelegramFeelings x = five();
            said(x, 0, 5, 0, 1);
            x.mend(1, COST, 9);
            said(x, 0, 7, 0, 2);
            x.undo();
            said(x, 0, 5, 0, 1);
            x.redo();
            said(x, 0, 7, 0, 2);
            x.mend(0, SORT, 1);
            said(x, 0, 6, 4, 0);
            x.word(1, 0);
            said(x, 0, 5, 4, 5);
            x.night();
            said(x, 0, 2, 4, 5);
            law(x, "9-c");
            said(x, 0, 5, 4, 1);
            x.mend(1, SENSE, 0);
            due(NOT, x.say(64 * 2 + 4, -1));
        });
        test(11, "the greatest PRICE of six WORDS", () -> {
            TelegramFeelings x = seven();
            law(x, "100");
            said(x, 64 * 31, 594, 0, 1, 2, 3, 4, 5);
        });
    }

    // ---- allFor

    private static void allFor() {
        test(12, "v halfpence (0 .. 999): -1 and 1000 are BAD, and nothing changes", () -> {
            refused(Boundary::rich, BAD, x -> x.allFor(-1, 0));
            refused(Boundary::rich, BAD, x -> x.allFor(1000, 0));
            refused(Boundary::rich, BAD, x -> x.allFor(MIN, 1));
            refused(Boundary::rich, BAD, x -> x.allFor(MAX, 1));
        });
        test(12, "v halfpence (0 .. 999): 0 and 999 are allowed", () -> {
            refused(Boundary::five, NOT, x -> x.allFor(0, 0));
            refused(Boundary::five, 4, x -> x.allFor(999, 0));
            TelegramFeelings x = five();
            law(x, "0");
            due(4, x.allFor(0, 0));
            due(15, x.allFor(0, 1));
        });
        test(12, "what 0, 1: -1 and 2 are BAD, and nothing changes", () -> {
            refused(Boundary::rich, BAD, x -> x.allFor(50, -1));
            refused(Boundary::rich, BAD, x -> x.allFor(50, 2));
            refused(Boundary::rich, BAD, x -> x.allFor(50, MIN));
            refused(Boundary::rich, BAD, x -> x.allFor(50, MAX));
        });
        test(12, "for v at most: its PRICE is enough, one less isn't", () -> {
            due(NOT, five().allFor(4, 0));
            due(NOT, five().allFor(4, 1));
            due(2, five().allFor(5, 0));
            due(3, five().allFor(5, 1));
            due(7, five().allFor(7, 1));
            due(11, five().allFor(6, 1));
            due(15, five().allFor(8, 1));
        });
        test(12, "NOT: none is RIGHT for that; no WORDS", () -> {
            refused(Boundary::fresh, NOT, x -> x.allFor(999, 0));
            refused(Boundary::fresh, NOT, x -> x.allFor(999, 1));
            refused(() -> words(1, 1, 1, 1, 2, 2), NOT, x -> x.allFor(999, 0));
            refused(() -> words(1, 1, 0, 1, 2, 2), NOT, x -> x.allFor(999, 1));
        });
        test(12, "of BAD and NOT, BAD is named first", () -> {
            due(BAD, fresh().allFor(1000, 0));
            due(BAD, fresh().allFor(-1, 1));
            due(BAD, fresh().allFor(5, 2));
            due(BAD, five().allFor(0, 2));
        });
        test(12, "ALL FOR: 0 bits, too", () -> {
            TelegramFeelings x = words(1, 0, 0, 1, 0, 1, 9, 1, 1);
            due(NOT, x.allFor(1, 0));
            due(0, x.allFor(2, 0));
            due(0, x.allFor(2, 1));
            due(0, x.allFor(9, 1));
            due(1, x.allFor(10, 0));
            due(1, x.allFor(10, 1));
        });
        test(12, "those bits (of like ones the least)", () -> {
            TelegramFeelings x = words(1, 0, 0, 1, 32, 1, 1, 4, 1, 1, 16, 1);
            due(1, x.allFor(2, 0));
            due(4, x.allFor(2, 1));
            due(2, x.allFor(3, 0));
            due(20, x.allFor(3, 1));
            // the dearer one has more bits
            x = words(1, 0, 0, 1, 1, 1, 2, 48, 1);
            due(1, x.allFor(2, 1));
            due(48, x.allFor(3, 1));
        });
        test(12, "6 WORDS at most", () -> {
            due(5, seven().allFor(999, 0));
            due(31, seven().allFor(999, 1));
            due(31, seven().allFor(6, 1));
            due(15, seven().allFor(5, 1));
        });
        test(12, "all six bits", () -> {
            due(6, words(1, 63, 0, 2, 63, 1).allFor(3, 0));
            due(63, words(1, 63, 0, 2, 0, 1).allFor(3, 1));
            due(63, words(1, 0, 0, 2, 63, 1).allFor(999, 1));
            due(NOT, words(1, 63, 0, 2, 63, 1).allFor(2, 1));
        });
    }

    // ---- tooDear

    private static TelegramFeelings fiveAnd(int... purses) {
        TelegramFeelings x = five();
        for (int purse : purses) {
            x.person(purse);
        }
        return x;
    }

    private static void tooDear() {
        test(13, "one: -1 and the number behind the last one are BAD, and nothing changes", () -> {
            refused(Boundary::rich, BAD, x -> x.tooDear(-1));
            refused(Boundary::rich, BAD, x -> x.tooDear(2));
            refused(Boundary::rich, BAD, x -> x.tooDear(MIN));
            refused(Boundary::rich, BAD, x -> x.tooDear(MAX));
            due(BAD, manyPeople().tooDear(6));
        });
        test(13, "one: 0 and the last one are allowed; nobody: BAD", () -> {
            refused(Boundary::manyPeople, 63, x -> x.tooDear(0));
            refused(Boundary::manyPeople, 63, x -> x.tooDear(5));
            refused(Boundary::fresh, BAD, x -> x.tooDear(0));
            refused(Boundary::manyWords, BAD, x -> x.tooDear(0));
        });
        test(13, "for PURSE of one or less: a PRICE of just that isn't too dear", () -> {
            due(63, fiveAnd(4).tooDear(0));
            due(60, fiveAnd(5).tooDear(0));
            due(60 - 8, fiveAnd(6).tooDear(0));
            due(32, fiveAnd(7).tooDear(0));
            due(32, fiveAnd(999).tooDear(0));
            due(63, fiveAnd(0).tooDear(0));
        });
        test(13, "which bits no RIGHT one has: no WORDS, none RIGHT: all", () -> {
            due(63, manyPeople().tooDear(3));
            TelegramFeelings x = words(1, 63, 0, 1, 63, 2);
            x.person(999);
            due(63, x.tooDear(0));
        });
        test(13, "an empty PURSE, where PRICES are 0", () -> {
            TelegramFeelings x = fiveAnd(0);
            law(x, "0");
            due(32, x.tooDear(0));
        });
        test(13, "no bit is too dear: all six by one WORD, or by several", () -> {
            TelegramFeelings x = words(1, 63, 0, 2, 63, 1);
            x.person(3);
            due(0, x.tooDear(0));
            x.mend(0, SENSE, 0);
            due(0, x.tooDear(0));
            x.mend(1, SENSE, 31);
            due(32, x.tooDear(0));
            x.mend(0, SENSE, 32);
            due(0, x.tooDear(0));
            x.mend(0, PURSE, 2);
            due(63, x.tooDear(0));
        });
        test(13, "6 WORDS at most: a bit by the sixth WORD, not by a seventh", () -> {
            TelegramFeelings x = words(1, 0, 0, 1, 0, 1, 1, 32, 2);
            x.person(20);
            law(x, "s=2&p<5?50;1");
            due(31, x.tooDear(0));
            law(x, "s=2&p<6?50;1");
            due(63, x.tooDear(0));
        });
    }

    // ---- year

    private static TelegramFeelings offers(int purse, long... shorts) {
        TelegramFeelings x = fresh();
        x.person(purse);
        return row(x, 1, 1, shorts);
    }

    private static void bought(TelegramFeelings x, int worth, int bits) {
        due(worth, x.year(1, 0, 0));
        due(bits, x.year(1, 0, 1));
    }

    private static void yearArguments() {
        test(14, "SHELVES 0 .. 5: -1 and 6 are BAD, 0 and 5 are allowed", () -> {
            refused(Boundary::rich, BAD, x -> x.year(-1, 0, 0));
            refused(Boundary::rich, BAD, x -> x.year(6, 0, 0));
            refused(Boundary::rich, BAD, x -> x.year(MIN, 0, 0));
            refused(Boundary::rich, BAD, x -> x.year(MAX, 0, 0));
            due(7, row(manyPeople(), 0, 1, 5, 7).year(0, 0, 0));
            due(7, row(manyPeople(), 5, 1, 5, 7).year(5, 0, 0));
        });
        test(14, "one: -1 and the number behind the last one are BAD, 0 and the last one are allowed", () -> {
            refused(Boundary::rich, BAD, x -> x.year(1, -1, 0));
            refused(Boundary::rich, BAD, x -> x.year(1, 2, 0));
            refused(Boundary::rich, BAD, x -> x.year(1, MIN, 0));
            refused(Boundary::rich, BAD, x -> x.year(1, MAX, 0));
            due(BAD, row(manyPeople(), 1, 1, 5, 7).year(1, 6, 0));
            due(7, row(manyPeople(), 1, 1, 5, 7).year(1, 5, 0));
            due(7, row(manyPeople(), 1, 1, 5, 7).year(1, 0, 0));
        });
        test(14, "nobody: BAD", () -> refused(() -> row(fresh(), 1, 1, 5, 7), BAD, x -> x.year(1, 0, 0)));
        test(14, "what 0, 1: -1 and 2 are BAD, and nothing changes", () -> {
            refused(Boundary::rich, BAD, x -> x.year(1, 0, -1));
            refused(Boundary::rich, BAD, x -> x.year(1, 0, 2));
            refused(Boundary::rich, BAD, x -> x.year(1, 0, MIN));
            refused(Boundary::rich, BAD, x -> x.year(1, 0, MAX));
        });
        test(14, "-11 nothing is there; no ROW of shorts: -12; nothing changes", () -> {
            refused(Boundary::rich, NOTHING, x -> x.year(3, 0, 0));
            refused(Boundary::rich, NOTHING, x -> x.year(3, 0, 1));
            refused(Boundary::rich, UNLIKE, x -> x.year(0, 0, 0));
            refused(Boundary::rich, UNLIKE, x -> x.year(2, 0, 0));
            refused(Boundary::rich, UNLIKE, x -> x.year(4, 0, 1));
            refused(Boundary::rich, UNLIKE, x -> x.year(5, 0, 1));
            due(UNLIKE, row(manyPeople(), 1, 2, 5, 7).year(1, 0, 0));
        });
        test(14, "of BAD, -11, -12, BAD is named first", () -> {
            refused(Boundary::rich, BAD, x -> x.year(3, 2, 0));
            refused(Boundary::rich, BAD, x -> x.year(3, 0, 2));
            refused(Boundary::rich, BAD, x -> x.year(0, -1, 0));
            refused(Boundary::rich, BAD, x -> x.year(2, 0, -1));
            due(BAD, fresh().year(0, 0, 0));
        });
        test(14, "what is asked changes nothing", () -> {
            refused(Boundary::rich, 20 + 10, x -> x.year(1, 0, 0));
            refused(Boundary::rich, 3, x -> x.year(1, 0, 1));
        });
    }

    private static void yearRows() {
        test(14, "a ROW of no elements: 0", () -> bought(offers(999), 0, 0));
        test(14, "it ends with what lacks: a PRICE without a worth", () -> {
            bought(offers(999, 5), 0, 0);
            bought(offers(999, 5, 7), 7, 1);
            bought(offers(999, 5, 7, 0), 7, 1);
            bought(offers(999, 5, 7, 0, 2), 9, 3);
        });
        test(14, "PRICE (0 .. 999): with -1 and 1000 it ends, 0 and 999 are allowed", () -> {
            bought(offers(999, 5, 7, -1, 2, 1, 2), 7, 1);
            bought(offers(999, 5, 7, 1000, 2, 1, 2), 7, 1);
            bought(offers(999, -1, 7, 1, 1), 0, 0);
            bought(offers(999, 0, 7, 999, 2), 9, 3);
        });
        test(14, "worth (0 .. 999): with -1 and 1000 it ends, 0 and 999 are allowed", () -> {
            bought(offers(999, 5, 7, 1, -1, 1, 2), 7, 1);
            bought(offers(999, 5, 7, 1, 1000, 1, 2), 7, 1);
            bought(offers(999, 1, 1000, 1, 1), 0, 0);
            bought(offers(999, 1, 999, 1, 0, 1, 1), 1000, 5);
        });
        test(14, "8 at most: the ninth doesn't come", () -> {
            long[] all = new long[60];
            for (int i = 0; i < 60; i++) {
                all[i] = 1;
            }
            bought(offers(999, all), 8, 255);
            all[17] = 999;
            bought(offers(999, all), 8, 255);
            all[15] = 999;
            bought(offers(999, all), 1006, 255);
            bought(offers(1, all), 999, 128);
            // the eighth one lacks its worth, or is not so
            bought(offers(999, 1, 1, 1, 1, 1, 1, 1, 1, 1, 1, 1, 1, 1, 1, 1), 7, 127);
            bought(offers(999, 1, 1, 1, 1, 1, 1, 1, 1, 1, 1, 1, 1, 1, 1, 1, 1000), 7, 127);
            bought(offers(999, 1, 1, 1, 1, 1, 1, 1, 1, 1, 1, 1, 1, 1, 1, -1, 1), 7, 127);
            bought(offers(999, 1, 1, 1, 1, 1, 1, 1, 1, 1, 1, 1, 1, 1, 1, 1, 1), 8, 255);
        });
        test(14, "a ROW's short keeps its lowest bits", () -> {
            bought(offers(999, 65536 + 5, 131072 + 7, 1, 1), 8, 3);
            bought(offers(999, 40000, 7, 1, 1), 0, 0);
        });
    }

    private static void yearBest() {
        test(14, "for what one has in its PURSE: all of it may be paid, one more not", () -> {
            bought(offers(10, 10, 7), 7, 1);
            bought(offers(9, 10, 7), 0, 0);
            bought(offers(10, 5, 7, 5, 7), 14, 3);
            bought(offers(10, 5, 7, 6, 7), 7, 1);
        });
        test(14, "an empty PURSE: what costs 0", () -> {
            bought(offers(0, 1, 7), 0, 0);
            bought(offers(0, 1, 7, 0, 5), 5, 2);
        });
        test(14, "which (bits; of like ones the least)", () -> {
            bought(offers(10, 10, 7, 10, 7), 7, 1);
            bought(offers(10, 10, 11, 5, 5, 5, 6), 11, 1);
            bought(offers(10, 5, 5, 5, 6, 10, 11), 11, 3);
            // what is worth nothing isn't in the least
            bought(offers(10, 0, 0, 1, 5), 5, 2);
            bought(offers(10, 0, 0), 0, 0);
        });
        test(14, "the least worth that is one", () -> {
            bought(offers(10, 5, 1), 1, 1);
            bought(offers(10, 10, 1, 10, 2), 2, 2);
        });
        test(14, "the greatest of all", () -> {
            long[] all = new long[16];
            for (int i = 0; i < 8; i++) {
                all[2 * i] = 124;
                all[2 * i + 1] = 999;
            }
            bought(offers(992, all), 8 * 999, 255);
            bought(offers(991, all), 7 * 999, 127);
        });
    }
}
