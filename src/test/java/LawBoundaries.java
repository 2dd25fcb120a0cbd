/** Promises 7 to 9: each sentence that names a boundary. */
public final class LawBoundaries extends Boundary {
    private static final String OPERATORS = "|&<=>+-*/%";

    public static void main(String[] args) {
        feed();
        lawEnds();
        lawBytes();
        lawNumbers();
        lawOpen();
        lawLines();
        lawOperators();
        lawThen();
        priceArguments();
        priceNames();
        priceNumbers();
        priceLines();
        priceWithout();
        end(7, 9);
    }

    // ---- feed

    private static void feed() {
        test(7, "a byte (0 .. 255): -1 and 256 are BAD, and nothing changes", () -> {
            refused(Boundary::rich, BAD, x -> x.feed(-1));
            refused(Boundary::rich, BAD, x -> x.feed(256));
            refused(Boundary::fresh, BAD, x -> x.feed(MIN));
            refused(Boundary::fresh, BAD, x -> x.feed(MAX));
        });
        test(7, "a byte (0 .. 255): 0 and 255 are allowed", () -> {
            TelegramFeelings x = fresh();
            due(1, x.feed(0));
            due(2, x.feed(255));
            due(2, x.count(2));
        });
        test(7, "how many it has: from 1, on an empty TAPE, to 120", () -> {
            TelegramFeelings x = fresh();
            for (int i = 1; i <= 120; i++) {
                due(i, x.feed('c'));
            }
            due(120, x.count(2));
        });
        test(7, "FULL (120), and nothing changes", () -> {
            refused(Boundary::longTape, FULL, x -> x.feed('c'));
            refused(Boundary::longTape, FULL, x -> x.feed(0));
            refused(Boundary::longTape, FULL, x -> x.feed(255));
        });
        test(7, "of BAD and FULL, BAD is named first", () -> {
            refused(Boundary::longTape, BAD, x -> x.feed(-1));
            refused(Boundary::longTape, BAD, x -> x.feed(256));
        });
        test(7, "a TAPE that was FULL takes bytes again behind law()", () -> {
            TelegramFeelings x = longTape();
            due(1, x.law());
            due(1, x.feed('c'));
        });
    }

    // ---- law

    /** What law() answers to a TEXT on a new object. */
    private static long told(String text) {
        return law(fresh(), text);
    }

    private static void lawEnds() {
        test(8, "an empty TAPE: FAULT at its length, 0", () -> {
            due(-100, fresh().law());
            refused(Boundary::fresh, -100, x -> x.law());
        });
        test(8, "the least TEXT: one byte", () -> {
            due(1, told("c"));
            due(1, told("0"));
        });
        test(8, "at most 120 bytes: a TEXT of 120 is one, to its last byte", () -> {
            TelegramFeelings x = longTape();
            due(1, x.law());
            due(17, x.price(0, 300));
            due(1, told(times("1+", 59) + "11"));
            due(1, told(times("0?1;", 29) + "0?12"));
        });
        test(8, "the length, if it ends too early: 120, too", () -> {
            due(-101, told("("));
            due(-102, told("1+"));
            due(-104, told("c?1;"));
            due(-220, told(times("1+", 60)));
            due(-220, told(times("0?1;", 30)));
            due(-220, told("(" + times("1+", 59) + "1"));
        });
        test(8, "FAULT at the first byte, and at the last one of 120", () -> {
            due(-100, told(")"));
            due(-219, told("1" + times("+1", 59) + ")"));
            due(-219, told("1" + times("+1", 59) + "x"));
        });
    }

    private static void lawBytes() {
        test(8, "the first byte with which no TEXT goes on: each byte, alone", () -> {
            for (int b = 0; b < 256; b++) {
                boolean whole = b >= '0' && b <= '9' || "cslpdw".indexOf(b) >= 0;
                TelegramFeelings x = fresh();
                x.feed(b);
                due(whole ? 1 : "(!-".indexOf(b) >= 0 ? -101 : -100, x.law());
            }
        });
        test(8, "the first byte with which no TEXT goes on: each byte behind a NAME", () ->
            behind("c", OPERATORS + "?;", ""));
        test(8, "each byte behind a number of 4 digits", () -> behind("1234", OPERATORS + "?;", ""));
        test(8, "each byte behind a second E of a LINE", () -> behind("c?c", OPERATORS + ";", ""));
        test(8, "each byte behind an O in brackets", () -> behind("(c", OPERATORS, ")"));
        test(8, "each byte behind a comparison", () -> behind("c<c", "|&+-*/%?;", ""));
        test(8, "each byte behind a comparison in brackets", () -> behind("(c=c", "|&+-*/%", ")"));
        test(8, "each byte behind ? and ; and an operator: an O, or what opens one", () -> {
            for (String text : new String[] {"c?", "c;", "c|", "c&", "c<", "c=", "c>", "c+", "c-", "c*", "c/", "c%", "!", "-"}) {
                behind(text, "(!-", "cslpdw0123456789");
            }
            behind("(", "(!-cslpdw0123456789", "");
        });
    }

    /** With each byte behind the text: what goes on, and what makes it whole; all others are FAULTS in their place. */
    private static void behind(String text, String goesOn, String whole) {
        for (int b = 0; b < 256; b++) {
            TelegramFeelings x = fresh();
            tape(x, text);
            x.feed(b);
            int length = text.length() + 1;
            due(whole.indexOf(b) >= 0 ? 1 : -100 - (goesOn.indexOf(b) >= 0 ? length : length - 1), x.law());
        }
    }

    private static void lawNumbers() {
        test(8, "a number (1 to 4 digits): 4 are allowed, the fifth is a FAULT", () -> {
            due(1, told("1"));
            due(1, told("12"));
            due(1, told("123"));
            due(1, told("9999"));
            due(1, told("0000"));
            due(-104, told("99999"));
            due(-104, told("00000"));
            due(-104, told("10000+1"));
            due(-106, told("1+1234567"));
            due(1, told("1234+1234"));
        });
        test(8, "no blanks", () -> {
            due(-100, told(" c"));
            due(-101, told("c "));
            due(-101, told("c +1"));
            due(-102, told("c+ 1"));
            due(-101, told("1\n"));
        });
        test(8, "NAMES and numbers don't stand side by side", () -> {
            due(-101, told("cc"));
            due(-101, told("c1"));
            due(-101, told("1c"));
            due(-101, told("1!2"));
            due(-101, told("1(2)"));
            due(-103, told("(1)2"));
            due(-103, told("(1)(2)"));
        });
    }

    private static void lawOpen() {
        test(8, "at most 6 of ( ! - are open at once: 6 are allowed", () -> {
            due(1, told("((((((1))))))"));
            due(1, told("!!!!!!1"));
            due(1, told("------1"));
            due(1, told("(!-(!-1))"));
            due(1, told("-(-(-(1)))"));
            due(1, told("!(!(!(c+1)*2)/3)"));
            due(1, told("((((((1-1))))))"));
        });
        test(8, "the seventh open one is the FAULT", () -> {
            due(-106, told("(((((((1)))))))"));
            due(-106, told("!!!!!!!1"));
            due(-106, told("-------1"));
            due(-106, told("(!-(!-(1)))"));
            due(-106, told("(!-(!--1))"));
            due(-106, told("(!-(!-!1))"));
            due(-108, told("((((((1+(1)))))))"));
            due(-108, told("((((((1--1))))))"));
            due(-108, told("((((((1+!1))))))"));
        });
        test(8, "behind 6 open ones a TEXT may end too early: its length", () -> {
            due(-106, told("(((((("));
            due(-106, told("!!!!!!"));
            due(-107, told("((((((1"));
            due(-112, told("((((((1)))))"));
        });
        test(8, "- between two P isn't open", () -> {
            due(1, told("1-------1"));
            due(-108, told("1--------1"));
            due(1, told("1-1-1-1-1-1-1-1-1-1"));
            due(1, told("((((((1-1-1))))))"));
        });
        test(8, "what is closed isn't open", () -> {
            due(1, told("(1)+(1)+(1)+(1)+(1)+(1)+(1)+(1)"));
            due(1, told("!1+!1+!1+!1+!1+!1+!1+!1"));
            due(1, told("-1*-1*-1*-1*-1*-1*-1*-1"));
            due(1, told("((((((1))))))+((((((1))))))"));
            due(1, told("(((((!1+!1)))))"));
            due(1, told("(((((!1+(1))))))"));
            due(1, told("!!!!!!1?------1;((((((1))))))"));
        });
        test(8, "brackets: none empty, none unclosed, none closed that isn't open", () -> {
            due(-101, told("()"));
            due(-102, told("(1"));
            due(-101, told("1)"));
            due(-103, told("(1))"));
            due(-104, told("((1)"));
            due(-102, told("(1;2)"));
            due(-102, told("(1?2)"));
        });
    }

    private static void lawLines() {
        test(8, "LINES, one or more, parted by ;", () -> {
            due(1, told("1;2"));
            due(1, told("1;2;3"));
            due(-100, told(";"));
            due(-100, told(";1"));
            due(-102, told("1;"));
            due(-102, told("1;;2"));
            due(-104, told("1;2;"));
        });
        test(8, "LINE: E, or E ? E", () -> {
            due(1, told("1?2"));
            due(1, told("1?2;3?4"));
            due(-100, told("?1"));
            due(-102, told("1?"));
            due(-102, told("1??2"));
            due(-103, told("1?2?3"));
            due(-102, told("1?;2"));
            due(-105, told("1;2?3?4"));
        });
    }

    private static void lawOperators() {
        test(8, "B = S, or S < S, S = S, S > S: one comparison", () -> {
            due(1, told("1<2"));
            due(-103, told("1<2<3"));
            due(-103, told("1=2=3"));
            due(-103, told("1>2>3"));
            due(-103, told("1<2=3"));
            due(-103, told("1>2<3"));
            due(-102, told("1<=2"));
            due(-102, told("1=>2"));
            due(-102, told("1=="));
            due(1, told("(1<2)<3"));
            due(1, told("1<(2<3)"));
            due(1, told("1<2&2<3|3=3"));
            due(-104, told("(1<2<3)"));
        });
        test(8, "an operator stands between two, once", () -> {
            for (char sign : OPERATORS.toCharArray()) {
                due(1, told("1" + sign + "1"));
                due(-102, told("1" + sign));
                due(sign == '-' ? -101 - 1 : -100, told(sign == '-' ? "--" : sign + "1"));
                due(sign == '-' ? 1 : -102, told("1" + sign + sign + "1"));
            }
            due(-101, told("1!=2"));
            due(1, told("1=!2"));
            due(1, told("1+-2"));
            due(-102, told("1+*2"));
        });
    }

    private static TelegramFeelings withFault() {
        TelegramFeelings x = fresh();
        x.word(7, 1);
        law(x, "c+1");
        tape(x, "c+2)");
        return x;
    }

    private static void lawThen() {
        test(8, "THE TAPE is empty then: behind 1 and behind a FAULT", () -> {
            TelegramFeelings x = fresh();
            due(1, law(x, "c+1"));
            due(0, x.count(2));
            due(-100, x.law());
            due(-103, law(x, "c+1)"));
            due(0, x.count(2));
            due(1, x.feed('c'));
            due(1, x.law());
        });
        test(8, "with a FAULT THE LAW is what it was", () -> {
            TelegramFeelings x = withFault();
            due(8, x.price(0, 300));
            due(-103, x.law());
            due(8, x.price(0, 300));
            due(-100, x.law());
            due(8, x.price(0, 300));
        });
        test(8, "with a FAULT and no TEXT yet there still is none: c; c by 2", () -> {
            TelegramFeelings x = words(7, 1, 1);
            due(-101, law(x, "9)"));
            due(7, x.price(0, 300));
            x.night();
            due(3, x.price(0, 300));
        });
        test(8, "a TEXT takes the place of the one ahead, a longer or shorter one", () -> {
            TelegramFeelings x = longTape();
            due(1, x.law());
            due(17, x.price(0, 300));
            due(1, law(x, "3"));
            due(3, x.price(0, 300));
            due(1, law(x, "0?1;0?2;c*c"));
            due(49, x.price(0, 300));
            due(1, law(x, "0?5"));
            due(0, x.price(0, 300));
        });
        test(8, "with a FAULT nothing changes but THE TAPE", () -> alike(() -> rich(true, false), () -> {
            TelegramFeelings x = rich();
            due(-102, x.law());
            return x;
        }));
        test(8, "a TEXT becomes THE LAW: nothing else changes", () -> {
            TelegramFeelings x = rich();
            x.law();
            TelegramFeelings y = rich();
            law(y, "+");
            for (int what = 0; what < 10; what++) {
                for (int number = 0; number < 6; number++) {
                    due(y.of(number, what), x.of(number, what));
                }
            }
            due(y.count(3), x.count(3));
            due(0, x.redo());
        });
    }

    // ---- price

    private static TelegramFeelings twoWords() {
        TelegramFeelings x = words(7, 1, 1, 4, 2, 2);
        law(x, "l*20+p");
        return x;
    }

    private static void priceArguments() {
        test(9, "a WORD: -1 and the number behind the last one are BAD, 0 and the last one are allowed", () -> {
            refused(LawBoundaries::twoWords, BAD, x -> x.price(-1, 300));
            refused(LawBoundaries::twoWords, BAD, x -> x.price(2, 300));
            refused(LawBoundaries::twoWords, BAD, x -> x.price(MIN, 300));
            refused(LawBoundaries::twoWords, BAD, x -> x.price(MAX, 300));
            refused(LawBoundaries::twoWords, 60, x -> x.price(0, 300));
            refused(LawBoundaries::twoWords, 60, x -> x.price(1, 300));
            due(BAD, manyWords().price(12, 300));
            due(3, manyWords().price(11, 300));
        });
        test(9, "no WORDS: BAD", () -> {
            refused(Boundary::fresh, BAD, x -> x.price(0, 300));
            refused(Boundary::manyPeople, BAD, x -> x.price(0, 0));
        });
        test(9, "the SORT (0 .. 2; 3: none): one below is BAD, 400 is BAD", () -> {
            refused(LawBoundaries::twoWords, BAD, x -> x.price(0, -100));
            refused(LawBoundaries::twoWords, BAD, x -> x.price(0, -99));
            refused(LawBoundaries::twoWords, BAD, x -> x.price(0, 400));
            refused(LawBoundaries::twoWords, BAD, x -> x.price(0, 411));
            due(0, twoWords().price(0, 0));
            due(60, twoWords().price(0, 300));
        });
        test(9, "the place 0 .. 11: -1 and 12 are BAD, 0 and 11 are allowed, behind each SORT", () -> {
            for (int sort = 0; sort < 4; sort++) {
                int from = 100 * sort;
                refused(LawBoundaries::twoWords, BAD, x -> x.price(0, from - 1));
                refused(LawBoundaries::twoWords, BAD, x -> x.price(0, from + 12));
                refused(LawBoundaries::twoWords, BAD, x -> x.price(0, from + 99));
                due(20 * sort, twoWords().price(0, from));
                due(20 * sort + 11, twoWords().price(0, from + 11));
            }
        });
        test(9, "lp: far off is BAD", () -> {
            due(BAD, twoWords().price(0, MIN));
            due(BAD, twoWords().price(0, MAX));
            // 100 times something, and a place, if it wrapped
            due(BAD, twoWords().price(0, -2147483600 + 4));
            for (int lp = -450; lp < 0; lp += 3) {
                due(BAD, twoWords().price(0, lp));
            }
            for (int lp = 400; lp < 1500; lp += 7) {
                due(BAD, twoWords().price(0, lp));
            }
        });
    }

    /** The PRICE of WORD 1 (COST 4, SORT 2) behind one of SORT 1 in place 5, at night, by a TEXT. */
    private static long worth(String text) {
        TelegramFeelings x = words(7, 1, 1, 4, 2, 2);
        x.night();
        return law(x, text) == 1 ? x.price(1, 105) : NO;
    }

    private static void gives(int value, String... texts) {
        for (String text : texts) {
            due(5 + value, worth("5+(" + text + ")"));
            due(value, worth(text));
        }
    }

    private static void priceNames() {
        test(9, "l SORT of the WORD ahead (3: none is ahead)", () -> {
            TelegramFeelings x = words(7, 1, 1);
            law(x, "l");
            due(0, x.price(0, 0));
            due(1, x.price(0, 100));
            due(2, x.price(0, 200));
            due(3, x.price(0, 300));
        });
        test(9, "p the place (0 on), to 11", () -> {
            TelegramFeelings x = words(7, 1, 1);
            law(x, "p");
            for (int p = 0; p < 12; p++) {
                due(p, x.price(0, 300 + p));
                due(p, x.price(0, p));
            }
        });
        test(9, "w the WORD's number, 0 to 11; c COST, 1 to 9; s SORT, 0 to 2; d NIGHT, 0, 1", () -> {
            TelegramFeelings x = manyWords();
            law(x, "w");
            for (int w = 0; w < 12; w++) {
                due(w, x.price(w, 300));
            }
            law(x, "c");
            for (int w = 0; w < 12; w++) {
                due(1 + w % 9, x.price(w, 300));
            }
            law(x, "s");
            for (int s = 2; s >= 0; s--) {
                x.mend(0, SORT, s);
                due(s, x.price(0, 300));
            }
            law(x, "d");
            due(0, x.price(0, 300));
            x.night();
            due(1, x.price(0, 300));
        });
    }

    private static void priceNumbers() {
        test(9, "held within 0 .. 99: below is 0, above is 99, 0 and 99 are themselves", () -> {
            due(0, worth("-1"));
            due(0, worth("0-9999"));
            due(0, worth("0"));
            due(1, worth("1"));
            due(98, worth("98"));
            due(99, worth("99"));
            due(99, worth("100"));
            due(99, worth("9999*9999"));
            due(0, worth("0-8192*8192*31"));
        });
        test(9, "ints that wrap", () -> {
            // 2147483648
            due(1, worth("8192*8192*32<0"));
            due(1, worth("8192*8192*32-1>0"));
            due(0, worth("8192*8192*32"));
            due(99, worth("8192*8192*32-1"));
            due(1, worth("8192*8192*32-1+1<0"));
            due(1, worth("0-8192*8192*32<0"));
            due(1, worth("-(8192*8192*32)<0"));
            due(1, worth("-(8192*8192*32)=8192*8192*32"));
            due(1, worth("8192*8192*64=0"));
            due(Math.floorMod(9999 * 9999 * 9999, 97), worth("(9999*9999*9999%97+97)%97"));
            due(Math.floorMod(9999 * 9999 * 9999 * 9999 * 7, 97), worth("(9999*9999*9999*9999*7%97+97)%97"));
        });
        test(9, "/ of the least int by -1 wraps, % gives 0", () -> {
            due(1, worth("8192*8192*32/-1=8192*8192*32"));
            due(0, worth("8192*8192*32%-1"));
            due(7, worth("7+8192*8192*32%-1"));
        });
        test(9, "/ and % toward 0", () -> {
            due(7, worth("10+-7/2"));
            due(9, worth("10+-7%2"));
            due(7, worth("10+7/-2"));
            due(11, worth("10+7%-2"));
            due(13, worth("10+-7/-2"));
            due(9, worth("10+-7%-2"));
            due(10, worth("10+-1/2"));
            due(0, worth("1/2"));
        });
        test(9, "by 0 they give 0", () -> {
            due(5, worth("5+7/0"));
            due(5, worth("5+7%0"));
            due(5, worth("5+0/0"));
            due(5, worth("5+0%0"));
            due(5, worth("5+-7/0"));
            due(0, worth("7/(c-4)"));
            due(3, worth("7%c"));
        });
        test(9, "| & < = > ! give 1, 0", () -> {
            // 5 more: 0 is told from what is held
            gives(1, "5|7", "0|7", "5|0", "-1|0", "5&7", "1&2", "-1&-1", "4<5", "-1<0", "5=5", "-1=-1", "6>5", "0>-1", "!0", "!!5",
                    "!!-5", "!(0)");
            gives(0, "0|0", "0&7", "5&0", "0&0", "5<5", "6<5", "4=5", "5=4", "4>5", "5>5", "!1", "!2", "!-1", "!!0");
        });
        test(9, "all is worked out: what is behind | and & too, to no harm", () -> {
            gives(1, "1|1/0", "1|1%0", "1/0|1");
            gives(0, "0&1/0", "0&1%0", "1/0&0", "1/0|0");
        });
        test(9, "a number of 4 digits, 0s ahead", () -> {
            due(7, worth("0007"));
            due(99, worth("9999-9900"));
            due(99, worth("1234-1135"));
            due(0, worth("0000"));
        });
    }

    private static void priceLines() {
        test(9, "the first LINE without a first E, or whose first E is not 0, counts", () -> {
            due(5, worth("5"));
            due(5, worth("5;6"));
            due(6, worth("0?5;6"));
            due(5, worth("1?5;6"));
            due(5, worth("-1?5;6"));
            due(5, worth("2?5;6"));
            due(7, worth("0?5;0?6;7"));
            due(6, worth("0?5;3?6;7"));
            due(0, worth("0;5"));
            due(0, worth("1?0;5"));
            due(0, worth("1?-5;5"));
        });
        test(9, "none: 0", () -> {
            due(0, worth("0?5"));
            due(0, worth("0?5;0?6"));
            due(0, worth("c=5?5;c=6?6"));
        });
    }

    private static void priceWithout() {
        test(9, "without a text: c", () -> {
            for (int w = 0; w < 12; w++) {
                due(1 + w % 9, manyWords().price(w, 300));
                due(1 + w % 9, manyWords().price(w, 211));
            }
        });
        test(9, "without a text: c by 2 (cut), if d is 1", () -> {
            TelegramFeelings x = manyWords();
            x.night();
            for (int w = 0; w < 12; w++) {
                due((1 + w % 9) / 2, x.price(w, 300));
            }
            due(0, x.price(0, 300));
            due(4, x.price(8, 300));
            x.night();
            due(9, x.price(8, 300));
        });
        test(9, "a TEXT counts at night as told: not halved", () -> {
            TelegramFeelings x = words(7, 1, 1);
            law(x, "c");
            x.night();
            due(7, x.price(0, 300));
        });
    }
}
