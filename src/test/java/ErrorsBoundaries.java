/** Promises 15 to 23: each sentence that names a boundary. */
public final class ErrorsBoundaries extends Boundary {

    public static void main(String[] args) {
        came();
        cameAsArguments();
        cameAs();
        meantArguments();
        meant();
        certain();
        safe();
        unsignedArguments();
        unsigned();
        clubArguments();
        club();
        lacks();
        drawnArguments();
        drawn();
        end(15, 23);
    }

    private static TelegramFeelings fiveWith(long... telegram) {
        return row(five(), 0, 0, telegram);
    }

    private static TelegramFeelings fiveBy(int err, long... telegram) {
        TelegramFeelings x = fiveWith(telegram);
        x.mend(0, ERR, err);
        return x;
    }

    /** Twelve WORDS, a who and whats, all of them heard as WORD 1; it came six times. */
    private static TelegramFeelings allAsOne() {
        TelegramFeelings x = manyWords();
        x.mend(0, SORT, 0);
        for (int i = 0; i < 12; i++) {
            x.mend(i, SLIP, 1);
        }
        return row(x, 0, 0, 1, 1, 1, 1, 1, 1);
    }

    // ---- came

    private static void came() {
        telegramIsThere(15, true, (x, shelf) -> x.came(shelf));
        test(15, "an empty TELEGRAM came: none may have been sent", () -> {
            due(0, fiveWith().came(0));
            due(0, fiveWith(5, 1).came(0));
            due(0, fiveWith(-1).came(0));
            due(0, row(fresh(), 0, 0, 0, 0).came(0));
        });
        test(15, "none that is RIGHT: 0", () -> {
            due(0, fiveWith(0).came(0));
            due(0, fiveWith(1, 1).came(0));
            due(0, fiveWith(0, 3, 1).came(0));
            due(0, fiveWith(0, 1, 0).came(0));
        });
        test(15, "as many WORDS long", () -> {
            due(2, fiveWith(0, 1).came(0));
            due(4, fiveWith(0, 1, 2).came(0));
            due(4, fiveWith(0, 1, 3, 2).came(0));
            due(8, fiveWith(0, 1, 3, 2, 1, 5, 1).came(0));
        });
        test(15, "odds above 0: ERR 0 and 12 of twelve, the least and the greatest", () -> {
            due(1, fiveBy(0, 0, 1, 3).came(0));
            due(2, fiveBy(1, 0, 1, 3).came(0));
            due(2, fiveBy(11, 0, 1, 3).came(0));
            due(1, fiveBy(12, 0, 1, 3).came(0));
            TelegramFeelings x = fiveBy(12, 0, 1, 3);
            x.mend(2, SLIP, 2);
            due(0, x.came(0));
            x.mend(0, ERR, 11);
            due(1, x.came(0));
        });
        test(15, "a WORD whose SLIP is itself comes as itself, once", () -> {
            due(1, fiveBy(12, 4, 1).came(0));
            due(1, fiveBy(0, 4, 1).came(0));
            due(2, fiveBy(6, 4, 1).came(0));
        });
        test(15, "of the first 6 WORDS of a TELEGRAM alone", () -> {
            due(16, fiveWith(0, 1, 1, 1, 1).came(0));
            due(32, fiveWith(0, 1, 1, 1, 1, 1).came(0));
            due(32, fiveWith(0, 1, 1, 1, 1, 1, 1).came(0));
            due(32, fiveWith(0, 1, 1, 1, 1, 1, 0).came(0));
            due(32, fiveWith(0, 1, 1, 1, 1, 1, 1, 1, 1, 1, 1, 1, 1).came(0));
            due(0, fiveWith(0, 1, 1, 1, 1, 0).came(0));
        });
        test(15, "12 WORDS, any of which may have been sent", () -> {
            due(161051, allAsOne().came(0));
            TelegramFeelings x = allAsOne();
            x.mend(0, ERR, 12);
            due(161051, x.came(0));
            x.mend(0, ERR, 0);
            due(0, x.came(0));
        });
        test(15, "what is asked changes nothing", () -> refused(Boundary::rich, 2, x -> x.came(0)));
    }

    // ---- cameAs

    private static void cameAsArguments() {
        telegramIsThere(16, false, (x, shelf) -> x.cameAs(shelf, 0));
        test(16, "the k-th WORD: -1 is BAD, and nothing changes", () -> {
            refused(Boundary::rich, BAD, x -> x.cameAs(0, -1));
            refused(Boundary::rich, BAD, x -> x.cameAs(0, MIN));
        });
        test(16, "the k-th WORD: the first and the last are allowed, behind it: NOT", () -> {
            refused(() -> fiveWith(0, 1, 3), 0, x -> x.cameAs(0, 0));
            refused(() -> fiveWith(0, 1, 3), 3, x -> x.cameAs(0, 2));
            refused(() -> fiveWith(0, 1, 3), NOT, x -> x.cameAs(0, 3));
            refused(() -> fiveWith(0, 1, 3), NOT, x -> x.cameAs(0, MAX));
        });
        test(16, "of BAD, -11, -12, BAD is named first", () -> {
            refused(Boundary::rich, BAD, x -> x.cameAs(3, -1));
            refused(Boundary::rich, BAD, x -> x.cameAs(1, -1));
            refused(Boundary::rich, BAD, x -> x.cameAs(2, -1));
        });
        test(16, "BAD, -11, -12; NOT: the refusals stand ahead of NOT", () -> {
            due(NOTHING, rich().cameAs(3, 9));
            due(UNLIKE, rich().cameAs(1, 9));
            due(BAD, fiveWith(1, 1).cameAs(0, -1));
            due(BAD, fiveWith().cameAs(0, -1));
        });
    }

    private static void cameAs() {
        test(16, "NOT: none (an empty TELEGRAM; none RIGHT; no WORDS)", () -> {
            refused(() -> fiveWith(), NOT, x -> x.cameAs(0, 0));
            refused(() -> fiveWith(5), NOT, x -> x.cameAs(0, 0));
            refused(() -> fiveWith(1, 1), NOT, x -> x.cameAs(0, 1));
            refused(() -> row(words(1, 1, 0), 0, 0, 0), NOT, x -> x.cameAs(0, 0));
            refused(() -> row(words(1, 1, 0), 0, 0, 0, 0), NOT, x -> x.cameAs(0, 1));
            refused(() -> row(words(1, 1, 0, 1, 2, 2), 0, 0, 0, 1), NOT, x -> x.cameAs(0, 1));
            refused(() -> row(fresh(), 0, 0, 0, 0), NOT, x -> x.cameAs(0, 0));
        });
        test(16, "of like ones the first by numbers", () -> {
            heard(fiveBy(6, 0, 1), 0, 1);
            heard(fiveBy(6, 0, 2), 0, 1);
            heard(fiveBy(6, 0, 2, 2, 3, 2), 0, 1, 1, 3, 1);
            heard(fiveBy(5, 0, 2, 1), 0, 2, 1);
            heard(fiveBy(7, 0, 2, 1), 0, 1, 2);
            TelegramFeelings x = allAsOne();
            x.mend(1, SLIP, 2);
            x.mend(0, ERR, 6);
            heard(x, 0, 1, 1, 1, 1, 1);
            x.mend(0, ERR, 12);
            heard(x, 0, 2, 2, 2, 2, 2);
        });
        test(16, "of like ones the first by numbers, though they are of unlike SORTS", () -> {
            heard(howOrWhat(6, 2, 1, 0, 1, 3), 0, 1, 2);
            heard(howOrWhat(6, 1, 2, 0, 1, 3), 0, 1, 2);
            heard(howOrWhat(6, 2, 1, 0, 1, 2), 0, 1, 2);
            heard(howOrWhat(6, 2, 1, 0, 1, 3, 1), 0, 1, 2, 1);
            heard(howOrWhat(6, 1, 2, 0, 1, 3, 1), 0, 1, 2, 1);
            heard(howOrWhat(6, 2, 1, 0, 1, 3, 3), 0, 1, 2, 2);
            heard(howOrWhat(6, 1, 2, 0, 3, 3, 1, 2), 0, 2, 2, 1, 2);
            // behind a who only the what is RIGHT
            heard(howOrWhat(6, 2, 1, 0, 3, 3, 1, 2), 0, 3, 2, 1, 2);
        });
        test(16, "the likeliest, though one of another SORT is the first by numbers", () -> {
            heard(howOrWhat(1, 2, 1, 0, 1, 3), 0, 1, 3);
            heard(howOrWhat(1, 1, 2, 0, 1, 3), 0, 1, 3);
            heard(howOrWhat(11, 2, 1, 0, 1, 3), 0, 1, 2);
            heard(howOrWhat(11, 1, 2, 0, 1, 3), 0, 1, 2);
            heard(howOrWhat(1, 2, 1, 0, 1, 3, 1), 0, 1, 3, 1);
            heard(howOrWhat(1, 2, 1, 0, 1, 3, 2, 3), 0, 1, 3, 2, 3);
            heard(howOrWhat(11, 1, 2, 0, 1, 2, 3), 0, 1, 3, 2);
        });
        test(16, "ERR 0 and 12, the least and the greatest", () -> {
            heard(fiveBy(0, 0, 1, 3), 0, 1, 3);
            heard(fiveBy(12, 0, 1, 3), 0, 2, 3);
        });
        test(16, "the likeliest RIGHT one, though one that isn't is likelier", () -> {
            TelegramFeelings x = words(1, 1, 0, 1, 2, 1, 1, 4, 1);
            x.mend(1, SLIP, 0);
            row(x, 0, 0, 0, 0);
            heard(x, 0, 1);
        });
        test(16, "of the first 6 WORDS alone: the sixth is there, the seventh isn't", () -> {
            TelegramFeelings x = fiveWith(0, 1, 1, 1, 1, 2, 2);
            heard(x, 0, 1, 1, 1, 1, 2);
            due(2, x.cameAs(0, 5));
            due(NOT, x.cameAs(0, 6));
            heard(fiveWith(0, 1, 1, 1, 1, 2, 0), 0, 1, 1, 1, 1, 2);
        });
    }

    /** A who, a what, and two of told SORTS that are heard as one another. */
    private static TelegramFeelings howOrWhat(int err, int sort, int other, long... telegram) {
        TelegramFeelings x = words(1, 1, 0, 1, 2, 1, 1, 4, sort, 1, 8, other);
        x.mend(2, SLIP, 3);
        x.mend(3, SLIP, 2);
        x.mend(0, ERR, err);
        return row(x, 0, 0, telegram);
    }

    private static void heard(TelegramFeelings x, int... words) {
        for (int k = 0; k < words.length; k++) {
            due(words[k], x.cameAs(0, k));
        }
        due(NOT, x.cameAs(0, words.length));
    }

    // ---- meant

    private static void meantArguments() {
        telegramIsThere(17, true, (x, shelf) -> x.meant(shelf, 0, 0));
        test(17, "a bit (0 .. 5): -1 and 6 are Long.MIN_VALUE, and nothing changes", () -> {
            refused(Boundary::rich, NO, x -> x.meant(0, -1, 0));
            refused(Boundary::rich, NO, x -> x.meant(0, 6, 0));
            refused(Boundary::rich, NO, x -> x.meant(0, MIN, 0));
            refused(Boundary::rich, NO, x -> x.meant(0, 32, 1));
            refused(Boundary::rich, NO, x -> x.meant(0, MAX, 1));
        });
        test(17, "a bit (0 .. 5): 0 and 5 are allowed", () -> {
            refused(() -> fiveWith(0, 1), 1, x -> x.meant(0, 0, 0));
            refused(() -> fiveWith(0, 1), 0, x -> x.meant(0, 5, 0));
            TelegramFeelings x = fiveWith(0, 1);
            x.mend(1, SENSE, 32);
            due(11, x.meant(0, 5, 0));
            due(12, x.meant(0, 5, 1));
        });
        test(17, "part 0 above, 1 below the line: -1 and 2 are Long.MIN_VALUE, and nothing changes", () -> {
            refused(Boundary::rich, NO, x -> x.meant(0, 0, -1));
            refused(Boundary::rich, NO, x -> x.meant(0, 0, 2));
            refused(Boundary::rich, NO, x -> x.meant(0, 0, MIN));
            refused(Boundary::rich, NO, x -> x.meant(0, 0, MAX));
        });
    }

    private static void meant(TelegramFeelings x, int bit, long above, long below) {
        due(above, x.meant(0, bit, 0));
        due(below, x.meant(0, bit, 1));
    }

    private static void meant() {
        test(17, "none: 0 by 1 (an empty TELEGRAM; none RIGHT; no WORDS)", () -> {
            for (int bit = 0; bit < 6; bit++) {
                meant(fiveWith(), bit, 0, 1);
                meant(fiveWith(5, 1), bit, 0, 1);
                meant(fiveWith(1, 1), bit, 0, 1);
                meant(row(fresh(), 0, 0, 0, 0), bit, 0, 1);
            }
        });
        test(17, "0 by 1, where what is above the line is 0; 1 by 1, where all have it", () -> {
            meant(fiveWith(0, 1), 0, 1, 1);
            meant(fiveWith(0, 1), 1, 1, 1);
            meant(fiveWith(0, 1), 3, 0, 1);
            meant(fiveBy(0, 0, 1), 2, 0, 1);
            meant(fiveBy(12, 0, 1), 2, 1, 1);
        });
        test(17, "a fraction in lowest terms", () -> {
            meant(fiveBy(1, 0, 1), 2, 1, 12);
            meant(fiveBy(2, 0, 1), 2, 1, 6);
            meant(fiveBy(3, 0, 1), 2, 1, 4);
            meant(fiveBy(4, 0, 1), 2, 1, 3);
            meant(fiveBy(6, 0, 1), 2, 1, 2);
            meant(fiveBy(8, 0, 1), 2, 2, 3);
            meant(fiveBy(9, 0, 1, 1), 2, 15, 16);
            meant(fiveBy(5, 0, 1, 1), 2, 144 - 49, 144);
        });
        test(17, "among those RIGHT ones: others weigh nothing", () -> {
            TelegramFeelings x = fiveBy(3, 0, 1);
            x.mend(4, SLIP, 1);
            meant(x, 4, 0, 1);
            meant(x, 2, 1, 4);
        });
        test(17, "of the first 6 WORDS alone", () -> {
            meant(fiveWith(0, 1, 1, 1, 1, 3), 3, 1, 1);
            meant(fiveWith(0, 1, 1, 1, 1, 1, 3), 3, 0, 1);
            meant(fiveWith(0, 1, 1, 1, 1, 1, 0), 0, 1, 1);
        });
        test(17, "the greatest numbers above and below", () -> {
            // each of five WORDS is word 1 by 11 of 11 + 11 * ..: all as likely as they come so
            TelegramFeelings x = allAsOne();
            x.mend(0, ERR, 11);
            // bit 0 is lacked by 2 4 6 8 10, heard as 1 by 11 each, and had by 1 (12) and 3 5 7 9 11 (11 each)
            long lacks = 55;
            long all = 55 + 55 + 12;
            meant(x, 0, power(all) - power(lacks), power(all));
        });
    }

    private static long power(long v) {
        return v * v * v * v * v;
    }

    // ---- certain

    private static void certain() {
        telegramIsThere(18, false, (x, shelf) -> x.certain(shelf));
        test(18, "none: 0 (an empty TELEGRAM; none RIGHT; no WORDS)", () -> {
            due(0, fiveWith().certain(0));
            due(0, fiveWith(5, 1).certain(0));
            due(0, fiveWith(1, 1).certain(0));
            due(0, row(fresh(), 0, 0, 0, 0).certain(0));
        });
        test(18, "which bits: all such have them", () -> {
            due(3, fiveWith(0, 1).certain(0));
            due(3, fiveWith(0, 2).certain(0));
            due(11, fiveWith(0, 2, 3).certain(0));
            due(19 - 1, fiveWith(4, 2).certain(0));
            TelegramFeelings x = words(1, 0, 0, 1, 1, 1, 1, 2, 1);
            x.mend(1, SLIP, 2);
            x.mend(2, SLIP, 1);
            due(0, row(x, 0, 0, 0, 1, 2).certain(0));
        });
        test(18, "bits 0 and 5, the first and the last", () -> {
            TelegramFeelings x = words(1, 1, 0, 1, 32, 1);
            due(33, row(x, 0, 0, 0, 1).certain(0));
        });
        test(18, "odds above 0: ERR 0 and 12", () -> {
            due(7, fiveBy(0, 0, 2).certain(0));
            due(3, fiveBy(1, 0, 2).certain(0));
            due(3, fiveBy(12, 0, 2).certain(0));
            due(7, fiveBy(12, 0, 1).certain(0));
        });
        test(18, "of the first 6 WORDS alone", () -> {
            due(11, fiveWith(0, 1, 1, 1, 1, 3).certain(0));
            due(3, fiveWith(0, 1, 1, 1, 1, 1, 3).certain(0));
            due(3, fiveWith(0, 1, 1, 1, 1, 1, 4).certain(0));
        });
        test(18, "what is asked changes nothing", () -> refused(() -> fiveWith(0, 1), 3, x -> x.certain(0)));
    }

    // ---- safe

    private static void safe(TelegramFeelings x, long above, long below) {
        due(above, x.safe(0, 0));
        due(below, x.safe(0, 1));
    }

    private static void safe() {
        telegramIsThere(19, true, (x, shelf) -> x.safe(shelf, 0));
        test(19, "part 0 above, 1 below the line: -1 and 2 are Long.MIN_VALUE, and nothing changes", () -> {
            refused(Boundary::rich, NO, x -> x.safe(0, -1));
            refused(Boundary::rich, NO, x -> x.safe(0, 2));
            refused(Boundary::rich, NO, x -> x.safe(0, MIN));
            refused(Boundary::rich, NO, x -> x.safe(0, MAX));
            refused(() -> fiveWith(0, 1), 11, x -> x.safe(0, 0));
            refused(() -> fiveWith(0, 1), 12, x -> x.safe(0, 1));
        });
        test(19, "an empty TELEGRAM is SAFE 1 by 1", () -> {
            safe(fiveWith(), 1, 1);
            safe(fiveWith(5, 1), 1, 1);
            safe(fiveWith(-1), 1, 1);
            safe(row(fresh(), 0, 0), 1, 1);
            safe(row(fresh(), 0, 0, 0, 0), 1, 1);
            safe(fiveBy(12), 1, 1);
        });
        test(19, "ERR 0: 1 by 1; ERR 12: each comes as its SLIP", () -> {
            safe(fiveBy(0, 0, 1), 1, 1);
            safe(fiveBy(12, 0, 1), 0, 1);
            safe(fiveBy(12, 0, 1, 2), 1, 1);
            safe(fiveBy(12, 0, 3), 1, 1);
        });
        test(19, "a fraction in lowest terms (0 by 1, where what is above the line is 0)", () -> {
            safe(fiveBy(3, 0, 1), 3, 4);
            safe(fiveBy(6, 0, 1), 1, 2);
            safe(fiveBy(6, 1, 1), 1, 4);
            safe(fiveBy(10, 1, 1), 1, 36);
            safe(fiveBy(1, 0, 1, 2), 133, 144);
            safe(fiveBy(12, 1), 0, 1);
        });
        test(19, "with just its own SENSE, whatever WORDS it comes by; RIGHT or not", () -> {
            TelegramFeelings x = words(1, 3, 1, 1, 3, 1, 1, 1, 1);
            x.mend(0, SLIP, 1);
            safe(row(x, 0, 0, 0), 1, 1);
            // less SENSE than its own isn't it, either
            x.mend(0, SLIP, 2);
            safe(x, 11, 12);
        });
        test(19, "of the first 6 WORDS alone", () -> {
            long eleven = 11L * 11 * 11 * 11 * 11;
            long twelve = 12L * 12 * 12 * 12 * 12;
            safe(fiveWith(0, 1, 1, 1, 1, 1), eleven, twelve);
            safe(fiveWith(1, 1, 1, 1, 1, 1), 11 * eleven, 12 * twelve);
            safe(fiveWith(1, 1, 1, 1, 1, 1, 1), 11 * eleven, 12 * twelve);
            safe(fiveWith(1, 1, 1, 1, 1, 1, 2), 11 * eleven, 12 * twelve);
        });
    }

    // ---- unsigned

    private static TelegramFeelings fiveFor(int... pursesAndFeelings) {
        TelegramFeelings x = fiveWith(0, 1);
        for (int i = 0; i < pursesAndFeelings.length / 2; i++) {
            x.person(pursesAndFeelings[2 * i]);
            x.mend(i, FEELS, pursesAndFeelings[2 * i + 1]);
        }
        return x;
    }

    private static void signed(TelegramFeelings x, int who, int likeliest) {
        due(who, x.unsigned(0, 0));
        due(likeliest, x.unsigned(0, 1));
    }

    private static void unsignedArguments() {
        telegramIsThere(20, false, (x, shelf) -> x.unsigned(shelf, 0));
        test(20, "what 0, 1: -1 and 2 are BAD, and nothing changes", () -> {
            refused(Boundary::rich, BAD, x -> x.unsigned(0, -1));
            refused(Boundary::rich, BAD, x -> x.unsigned(0, 2));
            refused(Boundary::rich, BAD, x -> x.unsigned(0, MIN));
            refused(Boundary::rich, BAD, x -> x.unsigned(0, MAX));
            refused(() -> fiveFor(5, 3), 1, x -> x.unsigned(0, 0));
            refused(() -> fiveFor(5, 3), 0, x -> x.unsigned(0, 1));
        });
        test(20, "of BAD, -11, -12, BAD is named first", () -> {
            refused(Boundary::rich, BAD, x -> x.unsigned(3, 2));
            refused(Boundary::rich, BAD, x -> x.unsigned(1, -1));
            refused(Boundary::rich, BAD, x -> x.unsigned(2, 2));
        });
        test(20, "-11 and -12 stand ahead of NOT", () -> {
            due(NOTHING, fresh().unsigned(0, 1));
            due(UNLIKE, row(fresh(), 0, 1, 0, 0).unsigned(0, 1));
        });
    }

    private static void unsigned() {
        test(20, "NOT: nobody", () -> {
            signed(fiveFor(), 0, NOT);
            signed(row(fresh(), 0, 0), 0, NOT);
            signed(fiveFor(4, 63, 999, 2), 0, NOT);
        });
        test(20, "PURSE is its PRICE or more: just it is enough, one less isn't", () -> {
            signed(fiveFor(5, 63, 4, 63), 1, 0);
            signed(fiveFor(4, 63, 5, 63), 2, 1);
            signed(fiveFor(4, 63, 6, 63), 2, 1);
        });
        test(20, "FEELS has all its SENSE: just it is enough, a bit less isn't", () -> {
            signed(fiveFor(9, 3, 9, 2, 9, 1, 9, 0), 1, 0);
            signed(fiveFor(9, 60, 9, 7), 2, 1);
        });
        test(20, "the likeliest: by PURSE (of like ones the least)", () -> {
            signed(fiveFor(9, 63, 9, 63, 8, 63), 7, 0);
            signed(fiveFor(8, 63, 9, 63, 9, 63), 7, 1);
            signed(fiveFor(8, 63, 999, 2, 9, 63, 9, 63), 13, 2);
            signed(fiveFor(5, 3, 5, 3, 5, 3, 5, 3, 5, 3, 6, 3), 63, 5);
        });
        test(20, "an empty TELEGRAM: of all, an empty PURSE too", () -> {
            TelegramFeelings x = fiveFor(0, 0, 7, 0, 7, 5);
            x.row(0, 0, 0);
            signed(x, 7, 1);
            row(x, 0, 0, 5, 1);
            signed(x, 7, 1);
        });
        test(20, "by PRICE and SENSE of all its WORDS, not of the first 6 alone", () -> {
            TelegramFeelings x = fiveFor(7, 63, 6, 63, 9, 8);
            row(x, 0, 0, 3, 3, 3, 3, 3, 3, 3);
            signed(x, 5, 2);
            row(x, 0, 0, 3, 3, 3, 3, 3, 3, 4);
            signed(x, 0, NOT);
            x.mend(0, PURSE, 10);
            x.mend(2, PURSE, 10);
            signed(x, 1, 0);
        });
        test(20, "12 WORDS of 13 elements", () -> {
            TelegramFeelings x = fiveFor(12, 8, 11, 8);
            row(x, 0, 0, 3, 3, 3, 3, 3, 3, 3, 3, 3, 3, 3, 3, 4);
            signed(x, 1, 0);
        });
        test(20, "at night by what it costs then", () -> {
            TelegramFeelings x = fiveFor(1, 3, 2, 3);
            signed(x, 0, NOT);
            x.night();
            signed(x, 2, 1);
        });
    }

    // ---- club

    private static TelegramFeelings purses(int... purses) {
        TelegramFeelings x = fresh();
        for (int purse : purses) {
            x.person(purse);
        }
        return x;
    }

    private static void clubArguments() {
        test(21, "a set of PEOPLE: -1 and one with who isn't there are BAD, 0 and all are allowed", () -> {
            refused(() -> purses(3, 3), BAD, x -> x.club(-1, 1, 0));
            refused(() -> purses(3, 3), BAD, x -> x.club(4, 1, 0));
            refused(() -> purses(3, 3), BAD, x -> x.club(5, 1, 0));
            refused(Boundary::manyPeople, BAD, x -> x.club(64, 1, 0));
            refused(Boundary::manyPeople, BAD, x -> x.club(MIN, 1, 0));
            refused(Boundary::manyPeople, BAD, x -> x.club(MAX, 1, 0));
            refused(() -> purses(3, 3), 1, x -> x.club(3, 1, 0));
            refused(Boundary::manyPeople, 1, x -> x.club(63, 1, 0));
            refused(() -> purses(3, 3), NOT, x -> x.club(0, 0, 0));
        });
        test(21, "a PRICE v (0 .. 999): -1 and 1000 are BAD, 0 and 999 are allowed", () -> {
            refused(Boundary::manyPeople, BAD, x -> x.club(63, -1, 0));
            refused(Boundary::manyPeople, BAD, x -> x.club(63, 1000, 0));
            refused(Boundary::manyPeople, BAD, x -> x.club(63, MIN, 0));
            refused(Boundary::manyPeople, BAD, x -> x.club(63, MAX, 0));
            due(0, purses(3, 3).club(3, 0, 0));
            due(999, purses(999).club(1, 999, 0));
        });
        test(21, "one: -1 and the number behind the last one are BAD, nobody: BAD", () -> {
            refused(() -> purses(3, 3), BAD, x -> x.club(3, 1, -1));
            refused(() -> purses(3, 3), BAD, x -> x.club(3, 1, 2));
            refused(Boundary::manyPeople, BAD, x -> x.club(63, 1, 6));
            refused(Boundary::manyPeople, BAD, x -> x.club(63, 1, MIN));
            refused(Boundary::manyPeople, BAD, x -> x.club(63, 1, 32));
            refused(Boundary::fresh, BAD, x -> x.club(0, 0, 0));
        });
        test(21, "of BAD and NOT, BAD is named first", () -> {
            due(BAD, purses(3, 3).club(0, 1000, 0));
            due(BAD, purses(3, 3).club(2, 7, 2));
            due(BAD, purses(3, 3).club(4, 999, 0));
        });
    }

    /** What each one of a set pays. */
    private static void pay(TelegramFeelings x, int set, int v, int... shares) {
        int one = 0;
        for (int share : shares) {
            due(share, x.club(set, v, one));
            one++;
        }
    }

    private static void club() {
        test(21, "NOT: it is not in the set", () -> {
            pay(purses(3, 3, 4), 5, 7, 3, NOT, 4);
            pay(purses(3, 3, 4), 0, 0, NOT, NOT, NOT);
            pay(purses(3, 3, 4), 2, 3, NOT, 3, NOT);
        });
        test(21, "NOT: all their PURSES together are less than v; just v is enough", () -> {
            pay(purses(3, 3, 4), 7, 10, 3, 3, 4);
            pay(purses(3, 3, 4), 7, 11, NOT, NOT, NOT);
            // the PURSE of one who isn't in the set doesn't count
            pay(purses(3, 3, 999), 3, 7, NOT, NOT, NOT);
            pay(purses(0), 1, 1, NOT);
        });
        test(21, "empty PURSES: they pay 0 of 0", () -> {
            pay(purses(0), 1, 0, 0);
            pay(purses(0, 0), 3, 0, 0, 0);
            pay(purses(0, 0), 3, 1, NOT, NOT);
        });
        test(21, "as its PURSE is of all theirs (cut), what is left one each from the least number on, round", () -> {
            pay(purses(3, 3, 4), 7, 5, 1 + 1, 1, 2);
            pay(purses(3, 3, 4), 7, 2, 1, 1, 0);
            pay(purses(1, 1, 1, 1, 1, 1), 63, 1, 1, 0, 0, 0, 0, 0);
            pay(purses(1, 1, 1, 1, 1, 1), 63, 5, 1, 1, 1, 1, 1, 0);
            pay(purses(1, 1, 1, 1, 1, 1), 63, 6, 1, 1, 1, 1, 1, 1);
            // the least number of the set, not of all
            pay(purses(1, 1, 1, 1, 1, 1), 62, 1, NOT, 1, 0, 0, 0, 0);
            pay(purses(1, 1, 1, 1, 1, 1), 52, 2, NOT, NOT, 1, NOT, 1, 0);
            // also to one with an empty PURSE
            pay(purses(0, 1, 1), 7, 1, 1, 0, 0);
            pay(purses(0, 1), 3, 1, 0, 1);
        });
        test(21, "the greatest: 999 of six PURSES of 999", () -> {
            pay(purses(999, 999, 999, 999, 999, 999), 63, 999, 167, 167, 167, 166, 166, 166);
            pay(purses(999, 999, 999, 999, 999, 0), 63, 999, 200, 200, 200, 200, 199, 0);
        });
        test(21, "nobody pays in deed", () -> refused(Boundary::manyPeople, 9, x -> x.club(63, 50, 0)));
    }

    // ---- lacks

    private static void lacks(int bits, int dearest, TelegramFeelings x) {
        due(bits, x.lacks(0));
        due(dearest, x.lacks(1));
    }

    private static void lacks() {
        test(22, "what 0, 1: -1 and 2 are BAD, and nothing changes", () -> {
            refused(Boundary::rich, BAD, x -> x.lacks(-1));
            refused(Boundary::rich, BAD, x -> x.lacks(2));
            refused(Boundary::fresh, BAD, x -> x.lacks(MIN));
            refused(Boundary::fresh, BAD, x -> x.lacks(MAX));
            refused(Boundary::rich, 32, x -> x.lacks(0));
            refused(Boundary::rich, 4, x -> x.lacks(1));
        });
        test(22, "no WORDS: all bits; NOT", () -> {
            lacks(63, NOT, fresh());
            lacks(63, NOT, manyPeople());
        });
        test(22, "WORDS without SENSE not", () -> {
            lacks(63, NOT, words(9, 0, 1));
            lacks(62, 1, words(9, 0, 1, 1, 1, 1));
            lacks(0, 0, words(1, 63, 1, 9, 0, 1));
        });
        test(22, "which bits (0 .. 5) no WORD has: the first and the last", () -> {
            lacks(32, 0, words(1, 31, 1));
            lacks(1, 0, words(1, 62, 1));
            lacks(0, 1, words(1, 62, 1, 1, 1, 1));
        });
        test(22, "COST by how many bits, compared as fractions (not cut)", () -> {
            // 5 by 2 and 2 by 1
            lacks(56, 1, words(2, 1, 1, 5, 6, 1));
            lacks(56, 0, words(5, 6, 1, 2, 1, 1));
            // 9 by 5 and 7 by 4
            lacks(32, 0, words(9, 31, 1, 7, 15, 1));
            lacks(32, 1, words(7, 15, 1, 9, 31, 1));
            // 1 by 6 and 1 by 5
            lacks(0, 1, words(1, 63, 1, 1, 31, 1));
        });
        test(22, "of like ones the least", () -> {
            lacks(62, 0, words(3, 1, 1, 3, 1, 1));
            lacks(56, 0, words(2, 1, 1, 4, 6, 1));
            lacks(56, 0, words(4, 6, 1, 2, 1, 1));
            lacks(0, 0, words(8, 63, 1, 4, 7, 1, 8, 63, 1, 4, 56, 1));
        });
        test(22, "12 WORDS: the last one, too", () -> {
            TelegramFeelings x = fresh();
            for (int i = 0; i < 11; i++) {
                x.word(8, 1);
            }
            x.word(9, 32);
            lacks(30, 11, x);
        });
    }

    // ---- drawn

    /** As the document tells it, in longs that are cut to 32 bits. */
    private static int slowly(TelegramFeelings x, int seed, int n, int m, int what) {
        int words = x.count(0);
        int err = x.of(0, ERR);
        int[] sorts = new int[words];
        int[] senses = new int[words];
        int[] slips = new int[words];
        for (int i = 0; i < words; i++) {
            sorts[i] = x.of(i, SORT);
            senses[i] = x.of(i, SENSE);
            slips[i] = x.of(i, SLIP);
        }
        long z = seed & 0xffffffffL;
        int found = 0;
        for (int t = 0; t < n * m; t++) {
            int sent = 0;
            int came = 0;
            int[] said = new int[3];
            for (int k = 0; k < 3; k++) {
                z = (z * 1103515245L + 12345) & 0xffffffffL;
                int word = (int) ((z >> 10) % words);
                said[k] = sorts[word];
                sent |= senses[word];
                came |= senses[(z >> 18) % 12 < err ? slips[word] : word];
            }
            boolean right = said[0] == 0 && said[1] == 1 && said[2] != 0;
            found += (what == 0 ? right : sent != came) ? 1 : 0;
        }
        return found;
    }

    private static void drawnArguments() {
        test(23, "n years (1 .. 30): 0 and 31 are BAD, and nothing changes", () -> {
            refused(Boundary::rich, BAD, x -> x.drawn(1, 1, 0));
            refused(Boundary::rich, BAD, x -> x.drawn(1, 20, 0));
            refused(Boundary::rich, BAD, x -> x.drawn(1, 3101, 0));
            refused(Boundary::rich, BAD, x -> x.drawn(1, 3120, 1));
            due(BAD, five().drawn(1, -101, 0));
            due(BAD, five().drawn(1, -99, 0));
            due(BAD, five().drawn(1, MIN, 0));
            due(BAD, five().drawn(1, MAX, 0));
        });
        test(23, "m TELEGRAMS (1 .. 20): 0 and 21 are BAD, and nothing changes", () -> {
            refused(Boundary::rich, BAD, x -> x.drawn(1, 100, 0));
            refused(Boundary::rich, BAD, x -> x.drawn(1, 121, 0));
            refused(Boundary::rich, BAD, x -> x.drawn(1, 3000, 1));
            refused(Boundary::rich, BAD, x -> x.drawn(1, 3021, 1));
            refused(Boundary::rich, BAD, x -> x.drawn(1, 199, 0));
            due(BAD, five().drawn(1, 0, 0));
        });
        test(23, "n 1 and 30, m 1 and 20 are allowed", () -> {
            for (int nm : new int[] {101, 120, 3001, 3020}) {
                for (int what = 0; what < 2; what++) {
                    due(slowly(ready(), 3, nm / 100, nm % 100, what), ready().drawn(3, nm, what));
                }
            }
        });
        test(23, "what 0, 1: -1 and 2 are BAD, and nothing changes", () -> {
            refused(Boundary::rich, BAD, x -> x.drawn(1, 101, -1));
            refused(Boundary::rich, BAD, x -> x.drawn(1, 101, 2));
            refused(Boundary::rich, BAD, x -> x.drawn(1, 101, MIN));
            refused(Boundary::rich, BAD, x -> x.drawn(1, 101, MAX));
        });
        test(23, "no WORDS: nothing; but what is BAD is BAD", () -> {
            refused(Boundary::fresh, 0, x -> x.drawn(1, 101, 0));
            refused(Boundary::fresh, 0, x -> x.drawn(MAX, 3020, 1));
            refused(Boundary::fresh, BAD, x -> x.drawn(1, 100, 0));
            refused(Boundary::fresh, BAD, x -> x.drawn(1, 101, 2));
        });
    }

    private static TelegramFeelings ready() {
        TelegramFeelings x = five();
        x.mend(0, ERR, 5);
        return x;
    }

    private static void drawn() {
        test(23, "SEED, an int that wraps: the least, the greatest, below 0", () -> {
            for (int seed : new int[] {0, 1, -1, MIN, MAX, MIN + 1, MAX - 1, 0x40000000, -12345, 1103515245}) {
                for (int what = 0; what < 2; what++) {
                    due(slowly(ready(), seed, 1, 20, what), ready().drawn(seed, 120, what));
                    // the WORDS of TELEGRAMS that differ alone
                    due(slowly(ready(), seed, 1, 1, what), ready().drawn(seed, 101, what));
                }
            }
        });
        test(23, "many seeds, by one TELEGRAM each", () -> {
            TelegramFeelings x = ready();
            int sum = 0;
            int want = 0;
            for (int i = 0; i < 300; i++) {
                sum += x.drawn(i * 7919 * 7919, 101, i % 2) << i % 3;
            }
            for (int i = 0; i < 300; i++) {
                want += slowly(ready(), i * 7919 * 7919, 1, 1, i % 2) << i % 3;
            }
            due(want, sum);
        });
        test(23, "it slips, if it is below ERR: with 0 none, with 12 all", () -> {
            TelegramFeelings x = five();
            x.mend(0, ERR, 0);
            due(0, x.drawn(5, 3020, 1));
            x.mend(0, ERR, 12);
            TelegramFeelings y = words(1, 1, 1, 1, 2, 1);
            y.mend(0, SLIP, 1);
            y.mend(1, SLIP, 1);
            y.mend(0, ERR, 12);
            // all come as 2: another SENSE wherever word 0 was sent
            due(slowly(y, 5, 2, 20, 1), y.drawn(5, 220, 1));
            for (int err = 0; err <= 12; err++) {
                TelegramFeelings z = five();
                z.mend(0, ERR, err);
                due(slowly(z, 77, 1, 20, 1), z.drawn(77, 120, 1));
            }
        });
        test(23, "one WORD, and 12 WORDS", () -> {
            due(0, words(1, 1, 0).drawn(9, 3020, 0));
            TelegramFeelings x = manyWords();
            x.mend(0, SORT, 0);
            x.mend(1, SORT, 0);
            x.mend(2, SORT, 2);
            x.mend(3, SLIP, 4);
            for (int what = 0; what < 2; what++) {
                due(slowly(x, 9, 1, 20, what), x.drawn(9, 120, what));
            }
        });
        test(23, "how many were RIGHT as sent: what it comes as is not asked", () -> {
            TelegramFeelings x = five();
            int right = x.drawn(7, 3020, 0);
            due(slowly(five(), 7, 1, 20, 0), x.drawn(7, 120, 0));
            x.mend(0, ERR, 12);
            x.mend(0, SLIP, 1);
            due(right, x.drawn(7, 3020, 0));
        });
        test(23, "what is drawn changes nothing", () ->
            refused(ErrorsBoundaries::ready, slowly(ready(), 3, 1, 20, 1), x -> x.drawn(3, 120, 1)));
    }
}
