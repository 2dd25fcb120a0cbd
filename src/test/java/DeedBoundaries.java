/** Promises 24 to 30: each sentence that names a boundary. */
public final class DeedBoundaries extends Boundary {

    public static void main(String[] args) {
        sendArguments();
        sendRefused();
        sendRefusedByState();
        sent();
        night();
        led();
        image();
        backNone();
        back();
        undoNone();
        undoMany();
        undo();
        redoNone();
        redo();
        end(24, 30);
    }

    /** five(), whose TELEGRAM on SHELF 0 is 0 1 3 (PRICE 6, SENSE 11); people by PURSE and FEELS. */
    private static TelegramFeelings counter(int... pursesAndFeelings) {
        TelegramFeelings x = row(five(), 0, 0, 0, 1, 3);
        for (int i = 0; i < pursesAndFeelings.length / 2; i++) {
            x.person(pursesAndFeelings[2 * i]);
            x.mend(i, FEELS, pursesAndFeelings[2 * i + 1]);
        }
        return x;
    }

    private static TelegramFeelings two() {
        return counter(20, 15, 20, 15);
    }

    // ---- send

    private static void sendArguments() {
        telegramIsThere(24, false, (x, shelf) -> x.send(shelf, 1));
        test(24, "who and to whom, unlike: like ones are BAD, and nothing changes", () -> {
            refused(DeedBoundaries::two, BAD, x -> x.send(0, 0));
            refused(DeedBoundaries::two, BAD, x -> x.send(0, 11));
            refused(DeedBoundaries::two, BAD, x -> x.send(0, 22));
        });
        test(24, "who: one who isn't there is BAD, and nothing changes", () -> {
            refused(DeedBoundaries::two, BAD, x -> x.send(0, 20));
            refused(DeedBoundaries::two, BAD, x -> x.send(0, 21));
            refused(DeedBoundaries::two, BAD, x -> x.send(0, 100));
            refused(Boundary::manyPeople, BAD, x -> x.send(0, 60));
            refused(DeedBoundaries::two, BAD, x -> x.send(0, -10));
            refused(DeedBoundaries::two, BAD, x -> x.send(0, -9));
        });
        test(24, "to whom: one who isn't there is BAD, and nothing changes", () -> {
            refused(DeedBoundaries::two, BAD, x -> x.send(0, 2));
            refused(DeedBoundaries::two, BAD, x -> x.send(0, 12));
            refused(DeedBoundaries::two, BAD, x -> x.send(0, 19));
            refused(Boundary::manyPeople, BAD, x -> x.send(0, 6));
            refused(DeedBoundaries::two, BAD, x -> x.send(0, -1));
        });
        test(24, "ab: far off is BAD", () -> {
            refused(DeedBoundaries::two, BAD, x -> x.send(0, MIN));
            refused(DeedBoundaries::two, BAD, x -> x.send(0, MAX));
            due(BAD, two().send(0, 1000));
            due(BAD, two().send(0, -11));
        });
        test(24, "who and to whom: the first ones and the last ones are allowed", () -> {
            due(6, two().send(0, 1));
            due(6, two().send(0, 10));
            TelegramFeelings x = counter(20, 15, 20, 15, 20, 15, 20, 15, 20, 15, 20, 15);
            due(6, x.send(0, 5));
            due(6, x.send(0, 50));
            due(6, x.send(0, 54));
            due(6, x.send(0, 45));
            due(8, x.of(5, PURSE));
            due(14, x.of(4, PURSE));
        });
        test(24, "nobody, one alone: BAD", () -> {
            refused(() -> counter(), BAD, x -> x.send(0, 1));
            refused(() -> counter(20, 15), BAD, x -> x.send(0, 1));
            refused(() -> counter(20, 15), BAD, x -> x.send(0, 10));
            refused(() -> counter(20, 15), BAD, x -> x.send(0, 0));
        });
        test(24, "of several: BAD, -11, -12, NOT, STATE: BAD is named first", () -> {
            refused(Boundary::rich, BAD, x -> x.send(3, 0));
            refused(Boundary::rich, BAD, x -> x.send(3, 2));
            refused(Boundary::rich, BAD, x -> x.send(1, 0));
            refused(Boundary::rich, BAD, x -> x.send(2, 20));
            refused(() -> row(counter(0, 0, 0, 0), 0, 0, 1), BAD, x -> x.send(0, 11));
            refused(() -> counter(0, 0, 0, 0), BAD, x -> x.send(0, 2));
        });
        test(24, "BAD, -11 and -12 are no refused ones (both of the last are)", () -> {
            TelegramFeelings x = rich();
            int before = x.led(3);
            x.send(0, 0);
            x.send(9, 1);
            x.send(3, 1);
            x.send(1, 1);
            x.send(2, 1);
            due(before, x.led(3));
        });
    }

    private static void sendRefused() {
        test(24, "NOT: not RIGHT; one more refused, and nothing else changes", () -> {
            refusedAndLed(() -> row(rich(), 0, 0, 0, 0), NOT, x -> x.send(0, 1));
            refusedAndLed(() -> row(two(), 0, 0, 1), NOT, x -> x.send(0, 1));
            refusedAndLed(() -> row(two(), 0, 0, 0, 3, 1), NOT, x -> x.send(0, 10));
        });
        test(24, "NOT: an empty TELEGRAM is not RIGHT", () -> {
            refusedAndLed(() -> row(two(), 0, 0), NOT, x -> x.send(0, 1));
            refusedAndLed(() -> row(two(), 0, 0, 5, 0, 1), NOT, x -> x.send(0, 1));
            refusedAndLed(() -> row(manyPeople(), 0, 0, 0, 1), NOT, x -> x.send(0, 1));
        });
        test(24, "of NOT and STATE, NOT is named first", () -> {
            refusedAndLed(() -> row(counter(0, 0, 0, 0), 0, 0, 0, 0), NOT, x -> x.send(0, 1));
            refusedAndLed(() -> row(counter(999, 0, 0, 0), 0, 0, 1), NOT, x -> x.send(0, 1));
            refusedAndLed(() -> row(counter(0, 63, 0, 0), 0, 0, 1), NOT, x -> x.send(0, 1));
        });
    }

    private static void sendRefusedByState() {
        test(24, "STATE: not FELT: a bit less is refused, all its SENSE is enough", () -> {
            refusedAndLed(() -> counter(20, 10, 20, 63), STATE, x -> x.send(0, 1));
            refusedAndLed(() -> counter(20, 9, 20, 63), STATE, x -> x.send(0, 1));
            refusedAndLed(() -> counter(20, 3, 20, 63), STATE, x -> x.send(0, 1));
            refusedAndLed(() -> counter(20, 52, 20, 63), STATE, x -> x.send(0, 1));
            refusedAndLed(() -> counter(20, 0, 20, 63), STATE, x -> x.send(0, 1));
            due(6, counter(20, 11, 20, 0).send(0, 1));
        });
        test(24, "STATE: too dear: one less than its PRICE is refused, just it is enough", () -> {
            refusedAndLed(() -> counter(5, 63, 999, 63), STATE, x -> x.send(0, 1));
            refusedAndLed(() -> counter(0, 63, 999, 63), STATE, x -> x.send(0, 1));
            TelegramFeelings x = counter(6, 63, 999, 63);
            due(6, x.send(0, 1));
            due(0, x.of(0, PURSE));
            due(999, x.of(1, PURSE));
            due(STATE, x.send(0, 1));
            due(1, x.led(3));
        });
        test(24, "an empty PURSE pays a PRICE of 0", () -> {
            TelegramFeelings x = counter(0, 11, 0, 0);
            law(x, "0");
            due(0, x.send(0, 1));
            due(1, x.led(0));
            due(3, x.led(1));
            due(0, x.led(2));
            due(0, x.led(3));
            due(11, x.of(1, FEELS));
        });
    }

    private static void sent() {
        test(24, "its PRICE less by it; the other one FEELS it, too; nobody else anything", () -> {
            TelegramFeelings x = counter(20, 31, 30, 36, 40, 1);
            due(6, x.send(0, 1));
            due(14, x.of(0, PURSE));
            due(30, x.of(1, PURSE));
            due(40, x.of(2, PURSE));
            due(31, x.of(0, FEELS));
            due(36 | 11, x.of(1, FEELS));
            due(1, x.of(2, FEELS));
        });
        test(24, "what it was not FELT ahead of a wire may be wired behind it", () -> {
            TelegramFeelings x = counter(20, 15, 20, 0);
            due(STATE, x.send(0, 10));
            due(6, x.send(0, 1));
            due(6, x.send(0, 10));
        });
        test(24, "a TELEGRAM of 12 WORDS, of a PRICE of 999 and more", () -> {
            TelegramFeelings x = counter(999, 63, 0, 0);
            row(x, 0, 0, 0, 1, 1, 1, 1, 1, 1, 1, 1, 1, 1, 1, 0);
            law(x, "99");
            due(STATE, x.send(0, 1));
            law(x, "p<3?85;100-s*16");
            due(85 * 3 + 84 * 9, x.wire(0, 0));
            due(STATE, x.send(0, 1));
            law(x, "p<3?81;100-s*16");
            due(81 * 3 + 84 * 9, x.wire(0, 0));
            due(999, x.send(0, 1));
            due(0, x.of(0, PURSE));
            due(12, x.led(1));
            due(999, x.led(2));
        });
        test(24, "wires are no CHANGES (PURSE, FEELS by them, too): what may be DONE AGAIN still may be", () -> {
            TelegramFeelings x = two();
            x.mend(0, FORM, 3);
            x.undo();
            int before = x.count(3);
            due(6, x.send(0, 1));
            due(before, x.count(3));
            due(0, x.redo());
        });
    }

    // ---- night

    private static void night() {
        test(25, "NIGHT falls, or ends: 1, 0", () -> {
            TelegramFeelings x = fresh();
            for (int i = 0; i < 5; i++) {
                due(1 - i % 2, x.night());
                due(1 - i % 2, x.of(0, NIGHT));
            }
        });
        test(25, "NIGHT that was told by mend() ends", () -> {
            TelegramFeelings x = fresh();
            x.mend(0, NIGHT, 1);
            due(0, x.night());
            due(1, x.night());
            x.undo();
            due(0, x.of(0, NIGHT));
            due(1, x.night());
        });
        test(25, "deeds are none (no CHANGES): NIGHT by them, too", () -> {
            TelegramFeelings x = rich();
            int before = x.count(3);
            x.night();
            due(before, x.count(3));
            due(0, x.redo());
        });
    }

    // ---- led

    private static void led() {
        test(26, "what 0 .. 4: -1 and 5 are BAD, and nothing changes", () -> {
            refused(Boundary::rich, BAD, x -> x.led(-1));
            refused(Boundary::rich, BAD, x -> x.led(5));
            refused(Boundary::fresh, BAD, x -> x.led(MIN));
            refused(Boundary::fresh, BAD, x -> x.led(MAX));
        });
        test(26, "what 0 .. 4: 0 and 4 are allowed", () -> {
            refused(Boundary::rich, 3, x -> x.led(0));
            refused(Boundary::rich, 2, x -> x.led(4));
        });
        test(26, "nothing yet: 0", () -> {
            for (int what = 0; what < 5; what++) {
                due(0, fresh().led(what));
                due(0, two().led(what));
            }
        });
        test(26, "wires, WORDS, halfpence, refused ones, wires at NIGHT", () -> {
            TelegramFeelings x = counter(20, 15, 20, 15);
            x.send(0, 1);
            ledIs(x, 1, 3, 6, 0, 0);
            x.night();
            x.send(0, 10);
            ledIs(x, 2, 6, 8, 0, 1);
            x.mend(0, PURSE, 0);
            x.send(0, 1);
            ledIs(x, 2, 6, 8, 1, 1);
            x.night();
            row(x, 0, 0, 0, 1);
            x.send(0, 10);
            ledIs(x, 3, 8, 13, 1, 1);
            row(x, 0, 0);
            x.send(0, 10);
            ledIs(x, 3, 8, 13, 2, 1);
        });
    }

    private static void ledIs(TelegramFeelings x, int... numbers) {
        for (int what = 0; what < 5; what++) {
            due(numbers[what], x.led(what));
        }
    }

    // ---- image

    private static void image() {
        test(27, "AN IMAGE of nothing yet: 0 wires, nobody", () -> {
            TelegramFeelings x = fresh();
            due(0, x.image());
            due(0, x.back());
            x.person(5);
            due(0, x.back());
            due(5, x.of(0, PURSE));
        });
        test(27, "AN IMAGE is kept: wires", () -> {
            TelegramFeelings x = two();
            due(0, x.image());
            x.send(0, 1);
            due(1, x.image());
            x.send(0, 1);
            x.send(0, 10);
            due(3, x.image());
            due(3, x.image());
        });
        test(27, "the one kept last is laid back", () -> {
            TelegramFeelings x = two();
            x.image();
            x.send(0, 1);
            x.image();
            x.send(0, 1);
            due(1, x.back());
            due(14, x.of(0, PURSE));
        });
        test(27, "keeping one changes nothing else", () -> {
            TelegramFeelings x = rich();
            int changes = x.count(3);
            x.image();
            due(changes, x.count(3));
            due(0, x.redo());
            due(rich().of(0, PURSE), x.of(0, PURSE));
            due(rich().led(2), x.led(2));
        });
    }

    // ---- back

    private static void backNone() {
        test(28, "STATE: there is none, and nothing changes", () -> {
            refused(Boundary::fresh, STATE, x -> x.back());
            refused(DeedBoundaries::two, STATE, x -> x.back());
            refused(Boundary::manyPeople, STATE, x -> x.back());
        });
    }

    private static void back() {
        test(28, "it is laid back: PURSE, FEELS, NIGHT, what LED tells; wires", () -> {
            TelegramFeelings x = two();
            x.send(0, 1);
            x.send(0, 11);
            row(x, 1, 0);
            x.send(1, 1);
            x.image();
            x.night();
            x.send(0, 1);
            x.send(1, 1);
            x.mend(1, FEELS, 0);
            x.mend(1, PURSE, 999);
            due(1, x.back());
            due(0, x.of(0, NIGHT));
            due(14, x.of(0, PURSE));
            due(20, x.of(1, PURSE));
            due(15, x.of(1, FEELS));
            ledIs(x, 1, 3, 6, 1, 0);
        });
        test(28, "a NIGHT that ended since falls again, and PRICES are those of it", () -> {
            TelegramFeelings x = two();
            x.night();
            x.image();
            x.night();
            due(6, x.wire(0, 0));
            due(5, x.say(0, -1));
            x.back();
            due(1, x.of(0, NIGHT));
            due(2, x.wire(0, 0));
            due(2, x.say(0, -1));
        });
        test(28, "PEOPLE that came since as they are", () -> {
            TelegramFeelings x = counter(20, 15);
            x.image();
            x.person(7);
            x.mend(1, FEELS, 4);
            x.send(0, 1);
            due(0, x.back());
            due(20, x.of(0, PURSE));
            due(7, x.of(1, PURSE));
            due(4 | 11, x.of(1, FEELS));
            due(2, x.count(1));
        });
        test(28, "six people, the last one of whom came since", () -> {
            TelegramFeelings x = fresh();
            for (int i = 0; i < 5; i++) {
                x.person(10 + i);
            }
            x.image();
            x.person(15);
            for (int i = 0; i < 6; i++) {
                x.mend(i, PURSE, 900 + i);
            }
            x.back();
            for (int i = 0; i < 6; i++) {
                due(i < 5 ? 10 + i : 905, x.of(i, PURSE));
            }
            x.image();
            x.mend(5, PURSE, 1);
            x.back();
            due(905, x.of(5, PURSE));
        });
        test(28, "AN IMAGE stays: it may be laid back again", () -> {
            TelegramFeelings x = two();
            x.image();
            for (int i = 0; i < 3; i++) {
                x.send(0, 1);
                due(0, x.back());
                due(20, x.of(0, PURSE));
            }
        });
        test(28, "what AN IMAGE doesn't keep stays: WORDS, ERR, FORM, CHANGES, THE TAPE, SHELVES", () -> {
            TelegramFeelings x = two();
            x.image();
            x.mend(0, COST, 9);
            x.mend(0, ERR, 3);
            x.mend(0, FORM, 3);
            x.word(1, 1);
            x.feed('c');
            x.row(0, 2, 1);
            x.body(3);
            x.act(0, 0, 1);
            int changes = x.count(3);
            due(0, x.back());
            due(9, x.of(0, COST));
            due(3, x.of(0, ERR));
            due(3, x.of(0, FORM));
            due(6, x.count(0));
            due(1, x.count(2));
            due(changes, x.count(3));
            due(1, x.count(4));
            due(1, x.count(5));
            due(UNLIKE, x.wire(0, 0));
        });
        test(28, "it is a deed, no CHANGE: what may be DONE AGAIN still may be", () -> {
            TelegramFeelings x = rich();
            int changes = x.count(3);
            x.back();
            due(changes, x.count(3));
            due(0, x.redo());
        });
    }

    // ---- undo

    private static TelegramFeelings changed(int times) {
        TelegramFeelings x = fresh();
        x.person(0);
        for (int i = 1; i <= times; i++) {
            x.mend(0, PURSE, i);
        }
        return x;
    }

    private static void undoNone() {
        test(29, "STATE: none, and nothing changes", () -> {
            refused(Boundary::fresh, STATE, x -> x.undo());
            refused(Boundary::manyPeople, STATE, x -> x.undo());
        });
        test(29, "STATE: none any more, and nothing changes", () -> {
            refused(DeedBoundaries::allUndone, STATE, x -> x.undo());
        });
        test(29, "telling the same number is none", () -> {
            TelegramFeelings x = fresh();
            x.mend(0, ERR, 1);
            x.mend(0, FORM, 10);
            x.mend(0, NIGHT, 0);
            due(0, x.count(3));
            due(STATE, x.undo());
        });
        test(29, "a mend() that is BAD is none", () -> {
            TelegramFeelings x = fresh();
            x.mend(0, ERR, 13);
            x.mend(1, FORM, 11);
            x.mend(0, COST, 1);
            due(0, x.count(3));
            due(STATE, x.undo());
        });
        test(29, "deeds are none; WORDS and people that come are none", () -> {
            TelegramFeelings x = row(fresh(), 0, 0, 0, 1);
            row(x, 1, 0, 2, 1, 0, 3, 2, 1);
            x.words(1, 0, 2);
            x.person(99);
            x.person(99);
            x.send(0, 1);
            x.night();
            x.image();
            x.back();
            law(x, "c");
            due(0, x.count(3));
            due(STATE, x.undo());
        });
    }

    private static TelegramFeelings allUndone() {
        TelegramFeelings x = changed(2);
        x.undo();
        x.undo();
        return x;
    }

    private static void undoMany() {
        test(29, "40 at most are kept: 39 and 40 are", () -> {
            due(39, changed(39).count(3));
            TelegramFeelings x = changed(40);
            due(40, x.count(3));
            for (int i = 39; i >= 0; i--) {
                due(i, x.undo());
                due(i, x.of(0, PURSE));
            }
            due(STATE, x.undo());
            due(0, x.of(0, PURSE));
        });
        test(29, "40 at most are kept: of 41 the first isn't", () -> {
            TelegramFeelings x = changed(41);
            due(40, x.count(3));
            for (int i = 39; i >= 0; i--) {
                due(i, x.undo());
                due(i + 1, x.of(0, PURSE));
            }
            due(STATE, x.undo());
            due(1, x.of(0, PURSE));
        });
        test(29, "40 at most are kept: of 100 the last 40 are", () -> {
            TelegramFeelings x = changed(100);
            for (int i = 39; i >= 0; i--) {
                due(i, x.undo());
            }
            due(60, x.of(0, PURSE));
            due(STATE, x.undo());
        });
        test(29, "40 at most are kept: each with its number, what, and v", () -> {
            TelegramFeelings x = manyWords();
            x.person(5);
            int[][] told = new int[45][];
            for (int i = 0; i < 45; i++) {
                int what = i % 3 == 0 ? COST : i % 3 == 1 ? LONG : i % 2 == 0 ? PURSE : FORM;
                int number = what <= SLIP ? i * 5 % 12 : 0;
                int v = 1 + (i + 6) % 9;
                v = x.of(number, what) == v ? v % 9 + 1 : v;
                told[i] = new int[] {number, what, x.mend(number, what, v), v};
            }
            due(40, x.count(3));
            for (int i = 44; i >= 5; i--) {
                due(told[i][3], x.of(told[i][0], told[i][1]));
                due(i - 5, x.undo());
                due(told[i][2], x.of(told[i][0], told[i][1]));
            }
            due(STATE, x.undo());
            for (int i = 5; i < 45; i++) {
                due(44 - i, x.redo());
                due(told[i][3], x.of(told[i][0], told[i][1]));
            }
        });
        test(29, "40 at most, and some undone: as many more are kept again", () -> {
            TelegramFeelings x = changed(40);
            for (int i = 0; i < 3; i++) {
                x.undo();
            }
            x.mend(0, PURSE, 500);
            due(38, x.count(3));
            x.mend(0, PURSE, 501);
            x.mend(0, PURSE, 502);
            due(40, x.count(3));
            x.mend(0, PURSE, 503);
            due(40, x.count(3));
            for (int i = 0; i < 40; i++) {
                x.undo();
            }
            due(1, x.of(0, PURSE));
        });
    }

    private static void undo() {
        test(29, "all numbers of mend(), the latest first", () -> {
            TelegramFeelings x = two();
            TelegramFeelings y = two();
            int[] v = {9, 60, 2, 9, 3, 900, 50, 1, 12, 20};
            int many = x.count(3);
            for (int what = 0; what < 10; what++) {
                x.mend(0, what, v[what]);
            }
            for (int what = 9; what >= 0; what--) {
                due(v[what], x.of(0, what));
                due(many + what, x.undo());
                due(y.of(0, what), x.of(0, what));
            }
        });
        test(29, "of several numbers of one kind, the one that changed", () -> {
            TelegramFeelings x = manyWords();
            x.mend(3, COST, 9);
            x.mend(11, COST, 9);
            x.mend(0, COST, 9);
            due(2, x.undo());
            due(1, x.of(0, COST));
            due(9, x.of(11, COST));
            due(1, x.undo());
            due(3, x.of(11, COST));
            due(9, x.of(3, COST));
            due(0, x.undo());
            due(4, x.of(3, COST));
        });
        test(29, "behind a deed the number becomes what it was ahead of the change", () -> {
            TelegramFeelings x = counter(20, 11, 0, 0);
            x.mend(0, PURSE, 50);
            x.send(0, 1);
            due(44, x.of(0, PURSE));
            x.undo();
            due(20, x.of(0, PURSE));
            x.redo();
            due(50, x.of(0, PURSE));
            due(11, x.of(1, FEELS));
        });
        test(29, "all numbers of mend(): SLIP, of a WORD that came since", () -> {
            TelegramFeelings x = words(1, 1, 1);
            x.word(1, 1);
            x.mend(0, SLIP, 1);
            x.undo();
            due(0, x.of(0, SLIP));
            x.redo();
            due(1, x.of(0, SLIP));
        });
    }

    // ---- redo

    private static void redoNone() {
        test(30, "STATE: none, and nothing changes", () -> {
            refused(Boundary::fresh, STATE, x -> x.redo());
            refused(() -> changed(3), STATE, x -> x.redo());
            refused(() -> changed(40), STATE, x -> x.redo());
            refused(() -> changed(45), STATE, x -> x.redo());
        });
        test(30, "STATE: all are DONE AGAIN, and nothing changes", () ->
            refused(DeedBoundaries::doneAgain, STATE, x -> x.redo()));
        test(30, "as long as no other came behind: then STATE, and nothing changes", () -> {
            refused(DeedBoundaries::otherBehind, STATE, x -> x.redo());
            TelegramFeelings x = otherBehind();
            due(2, x.count(3));
            due(1, x.undo());
            due(1, x.of(0, PURSE));
            due(0, x.redo());
            due(9, x.of(0, PURSE));
        });
        test(30, "the same change told anew is another one that came behind", () -> {
            TelegramFeelings x = changed(3);
            x.undo();
            x.mend(0, PURSE, 3);
            due(STATE, x.redo());
            due(3, x.count(3));
        });
    }

    private static TelegramFeelings doneAgain() {
        TelegramFeelings x = allUndone();
        x.redo();
        x.redo();
        return x;
    }

    private static TelegramFeelings otherBehind() {
        TelegramFeelings x = changed(3);
        x.undo();
        x.undo();
        x.mend(0, PURSE, 9);
        return x;
    }

    private static void redo() {
        test(30, "how many may still be", () -> {
            TelegramFeelings x = changed(3);
            x.undo();
            x.undo();
            x.undo();
            due(2, x.redo());
            due(1, x.of(0, PURSE));
            due(1, x.redo());
            due(2, x.of(0, PURSE));
            due(0, x.redo());
            due(3, x.of(0, PURSE));
            due(STATE, x.redo());
        });
        test(30, "all 40 are UNDONE and DONE AGAIN", () -> {
            TelegramFeelings x = changed(45);
            for (int i = 0; i < 40; i++) {
                x.undo();
            }
            due(5, x.of(0, PURSE));
            for (int i = 39; i >= 0; i--) {
                due(i, x.redo());
                due(45 - i, x.of(0, PURSE));
            }
            due(STATE, x.redo());
            due(40, x.count(3));
            due(45, x.of(0, PURSE));
        });
        test(30, "telling the same number, a BAD one, deeds don't come behind", () -> {
            TelegramFeelings x = changed(3);
            x.undo();
            x.mend(0, PURSE, 2);
            x.mend(0, PURSE, 1000);
            x.mend(1, PURSE, 5);
            x.night();
            x.night();
            x.image();
            x.back();
            x.word(1, 1);
            x.person(5);
            law(x, "c");
            due(0, x.redo());
            due(3, x.of(0, PURSE));
        });
        test(30, "all numbers of mend()", () -> {
            TelegramFeelings x = two();
            int[] v = {9, 60, 2, 9, 3, 900, 50, 1, 12, 20};
            for (int what = 0; what < 10; what++) {
                x.mend(0, what, v[what]);
            }
            for (int what = 0; what < 10; what++) {
                x.undo();
            }
            for (int what = 0; what < 10; what++) {
                due(9 - what, x.redo());
                due(v[what], x.of(0, what));
            }
        });
    }
}
