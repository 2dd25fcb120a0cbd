import java.util.Arrays;

/**
 * A telegraph office in thought and in deed, as DOC.md promises it. The public methods look at their
 * arguments in the order of the refusals; the work is done by the classes inside, whose rows are all
 * made once, in constructors, so that no call makes an object.
 */
public final class TelegramFeelings {

    public static final int BAD = -1, NOT = -2, FULL = -3, STATE = -5, VOID = -2000000000;

    private static final int NOTHING = -11, UNLIKE = -12, NO_PLACE = -13, NO_SIZE = -14;

    // what mend() and of() tell by
    private static final int COST = 0, SENSE = 1, SORT = 2, LONG = 3, SLIP = 4;
    private static final int PURSE = 5, FEELS = 6, NIGHT = 7, ERR = 8, FORM = 9;

    private static final int WHO = 0, WHAT = 1, HOW = 2, NONE = 3;
    private static final int WORDS = 12, PEOPLE = 6, SENSES = 64, BITS = 6;
    // no more WORDS than these are looked at in SAY and its like, and by ERRORS
    private static final int FEW = 6;
    private static final int TWELVE = 12;
    private static final int BYTES = 0, SHORTS = 1, LONGS = 3, BOOLEANS = 4, BODY = 5;

    private final Office office = new Office();
    private final Law law = new Law(office);
    private final Shelves shelves = new Shelves();
    private final Telegram telegram = new Telegram(office, law);
    private final Sayings sayings = new Sayings(office, law);
    private final Hearing hearing = new Hearing(office, telegram);
    private final Deeds deeds = new Deeds(office);
    private final Changes changes = new Changes(office);
    private final Bodies bodies = new Bodies();

    public TelegramFeelings() {
    }

    // ---- words, people

    public int word(int cost, int sense) {
        if (!office.fits(COST, cost) || !office.fits(SENSE, sense)) {
            return BAD;
        }
        return office.addWord(cost, sense, WHAT);
    }

    public int words(int shelf, int i, int n) {
        if (!between(n, 1, WORDS)) {
            return BAD;
        }
        int refused = shelves.refusal(shelf, BYTES);
        if (refused == BAD || refused == UNLIKE) {
            return refused;
        }
        if (refused == NOTHING || i < 0) {
            return 0;
        }
        for (int k = 0; k < n; k++) {
            if (i > shelves.sizeOf(shelf) - 3 * (k + 1) || !wordFrom(shelf, i + 3 * k)) {
                return k;
            }
        }
        return n;
    }

    private boolean wordFrom(int shelf, int place) {
        int cost = (int) shelves.at(shelf, place);
        int sense = (int) shelves.at(shelf, place + 1);
        int sort = (int) shelves.at(shelf, place + 2);
        if (!office.fits(COST, cost) || !office.fits(SENSE, sense) || !office.fits(SORT, sort)) {
            return false;
        }
        return office.addWord(cost, sense, sort) >= 0;
    }

    public int person(int purse) {
        return office.fits(PURSE, purse) ? office.addPerson(purse) : BAD;
    }

    public int mend(int number, int what, int v) {
        if (!office.has(number, what) || !office.fits(what, v)) {
            return BAD;
        }
        int was = office.value(number, what);
        if (was != v) {
            office.set(number, what, v);
            changes.note(number, what, was, v);
        }
        return was;
    }

    public int of(int number, int what) {
        return office.has(number, what) ? office.value(number, what) : BAD;
    }

    public int feed(int letter) {
        return between(letter, 0, 255) ? law.feedOne(letter) : BAD;
    }

    public int law() {
        return law.adopt();
    }

    public int price(int word, int lp) {
        int ahead = lp / 100;
        int place = lp % 100;
        if (!office.has(word, COST) || !between(ahead, WHO, NONE) || !between(place, 0, WORDS - 1)) {
            return BAD;
        }
        return law.priceOf(word, ahead, place);
    }

    // ---- telegrams in thought

    public int wire(int shelf, int what) {
        int refused = between(what, 0, 5) ? opened(shelf) : BAD;
        if (refused != 0) {
            return refused;
        }
        switch (what) {
            case 0:
                return telegram.costs();
            case 1:
                return telegram.senseOf();
            case 2:
                return telegram.isRight() ? 1 : 0;
            case 3:
                return telegram.size;
            case 4:
                return telegram.joinedPrice();
            default:
                return telegram.joinedRuns();
        }
    }

    /** 0, and the TELEGRAM of a SHELF is read; or what refuses it. */
    private int opened(int shelf) {
        int refused = shelves.refusal(shelf, BYTES);
        if (refused == 0) {
            telegram.read(shelves, shelf);
        }
        return refused;
    }

    public int say(int yn, int k) {
        if (!between(yn, 0, SENSES * SENSES - 1) || k < -2) {
            return BAD;
        }
        long said = sayings.cheapest(yn / SENSES, yn % SENSES);
        if (said < 0) {
            return NOT;
        }
        if (k == -1) {
            return Sayings.priceIn(said);
        }
        int many = Sayings.manyIn(said);
        if (k == -2) {
            return many;
        }
        return k < many ? Sayings.wordIn(said, k) : NOT;
    }

    public int allFor(int v, int what) {
        if (!between(v, 0, 999) || !between(what, 0, 1)) {
            return BAD;
        }
        int sense = sayings.widest(v);
        if (sense < 0) {
            return NOT;
        }
        return what == 0 ? Integer.bitCount(sense) : sense;
    }

    public int tooDear(int one) {
        if (!office.has(one, PURSE)) {
            return BAD;
        }
        return ~sayings.within(office.value(one, PURSE)) & SENSES - 1;
    }

    public int year(int shelf, int one, int what) {
        if (!office.has(one, PURSE) || !between(what, 0, 1)) {
            return BAD;
        }
        int refused = shelves.refusal(shelf, SHORTS);
        if (refused != 0) {
            return refused;
        }
        int set = bestYear(shelf, office.value(one, PURSE));
        return what == 0 ? sumOf(shelf, set, 1) : set;
    }

    /** How many telegrams by twos a ROW of shorts offers. */
    private int offersOn(int shelf) {
        int size = shelves.sizeOf(shelf);
        for (int i = 0; i < 8; i++) {
            if (2 * i + 1 >= size || !office.fits(PURSE, (int) shelves.at(shelf, 2 * i))
                    || !office.fits(PURSE, (int) shelves.at(shelf, 2 * i + 1))) {
                return i;
            }
        }
        return 8;
    }

    private int bestYear(int shelf, int purse) {
        int sets = 1 << offersOn(shelf);
        int best = 0;
        int most = 0;
        for (int set = 1; set < sets; set++) {
            int worth = sumOf(shelf, set, 1);
            if (worth > most && sumOf(shelf, set, 0) <= purse) {
                most = worth;
                best = set;
            }
        }
        return best;
    }

    /** The PRICES (part 0) or worths (part 1) of a set of what a ROW of shorts offers, together. */
    private int sumOf(int shelf, int set, int part) {
        int sum = 0;
        for (int i = 0; i < 8; i++) {
            if ((set >> i & 1) == 1) {
                sum += (int) shelves.at(shelf, 2 * i + part);
            }
        }
        return sum;
    }

    // ---- errors, senders

    public long came(int shelf) {
        return opened(shelf) == 0 ? hearing.sum(0, true) : Long.MIN_VALUE;
    }

    public int cameAs(int shelf, int k) {
        int refused = k < 0 ? BAD : opened(shelf);
        if (refused != 0) {
            return refused;
        }
        return hearing.likeliest(k);
    }

    public long meant(int shelf, int bit, int part) {
        if (!between(bit, 0, BITS - 1) || !between(part, 0, 1) || opened(shelf) != 0) {
            return Long.MIN_VALUE;
        }
        long all = hearing.sum(0, false);
        return inLowest(all - hearing.sum(1 << bit, false), all, part);
    }

    public int certain(int shelf) {
        int refused = opened(shelf);
        return refused != 0 ? refused : hearing.sure();
    }

    public long safe(int shelf, int part) {
        if (!between(part, 0, 1) || opened(shelf) != 0) {
            return Long.MIN_VALUE;
        }
        return inLowest(hearing.unharmed(), hearing.allOdds(), part);
    }

    public int unsigned(int shelf, int what) {
        int refused = between(what, 0, 1) ? opened(shelf) : BAD;
        if (refused != 0) {
            return refused;
        }
        int sense = telegram.senseOf();
        int paid = telegram.costs();
        int set = 0;
        int likeliest = NOT;
        for (int one = 0; one < office.people; one++) {
            if (maySend(one, sense, paid)) {
                set |= 1 << one;
                if (likeliest < 0 || office.value(one, PURSE) > office.value(likeliest, PURSE)) {
                    likeliest = one;
                }
            }
        }
        return what == 0 ? set : likeliest;
    }

    /** Whether one FEELS all of a SENSE, and has its PRICE. */
    private boolean maySend(int one, int sense, int paid) {
        return (sense & ~office.value(one, FEELS)) == 0 && paid <= office.value(one, PURSE);
    }

    public int club(int set, int v, int one) {
        if (!between(set, 0, (1 << office.people) - 1) || !between(v, 0, 999) || !office.has(one, PURSE)) {
            return BAD;
        }
        int all = 0;
        for (int i = 0; i < office.people; i++) {
            all += isIn(set, i) ? office.value(i, PURSE) : 0;
        }
        if (!isIn(set, one) || all < v) {
            return NOT;
        }
        int left = v;
        int ahead = 0;
        for (int i = 0; i < office.people; i++) {
            left -= isIn(set, i) ? shareOf(i, v, all) : 0;
            ahead += i < one && isIn(set, i) ? 1 : 0;
        }
        // what is left is less than the members are: nobody gets a second one
        return shareOf(one, v, all) + (ahead < left ? 1 : 0);
    }

    private static boolean isIn(int set, int one) {
        return (set >> one & 1) == 1;
    }

    private int shareOf(int one, int v, int all) {
        return all > 0 ? v * office.value(one, PURSE) / all : 0;
    }

    public int lacks(int what) {
        if (!between(what, 0, 1)) {
            return BAD;
        }
        return what == 0 ? wordless() : dearest();
    }

    private int wordless() {
        int told = 0;
        for (int word = 0; word < office.words; word++) {
            told |= office.value(word, SENSE);
        }
        return ~told & SENSES - 1;
    }

    private int dearest() {
        int best = NOT;
        int cost = 0;
        int bits = 1;
        for (int word = 0; word < office.words; word++) {
            int itsCost = office.value(word, COST);
            int itsBits = Integer.bitCount(office.value(word, SENSE));
            if (itsBits > 0 && itsCost * bits > cost * itsBits) {
                best = word;
                cost = itsCost;
                bits = itsBits;
            }
        }
        return best;
    }

    public int drawn(int seed, int nm, int what) {
        int years = nm / 100;
        int each = nm % 100;
        if (!between(years, 1, 30) || !between(each, 1, 20) || !between(what, 0, 1)) {
            return BAD;
        }
        return hearing.draws(seed, years * each, what == 0);
    }

    // ---- in deed

    public int send(int shelf, int ab) {
        int who = ab / 10;
        int whom = ab % 10;
        if (who == whom || !office.has(who, PURSE) || !office.has(whom, PURSE)) {
            return BAD;
        }
        int refused = opened(shelf);
        if (refused != 0) {
            return refused;
        }
        if (!telegram.isRight()) {
            return deeds.refuse(NOT);
        }
        int sense = telegram.senseOf();
        int paid = telegram.costs();
        if (!maySend(who, sense, paid)) {
            return deeds.refuse(STATE);
        }
        office.set(who, PURSE, office.value(who, PURSE) - paid);
        office.set(whom, FEELS, office.value(whom, FEELS) | sense);
        deeds.noteWire(telegram.size, paid);
        return paid;
    }

    public int night() {
        office.set(0, NIGHT, 1 - office.value(0, NIGHT));
        return office.value(0, NIGHT);
    }

    public int led(int what) {
        return between(what, 0, 4) ? deeds.led[what] : BAD;
    }

    public int image() {
        return deeds.keepImage();
    }

    public int back() {
        return deeds.layBack();
    }

    public int undo() {
        return changes.undoOne();
    }

    public int redo() {
        return changes.redoOne();
    }

    // ---- acts, shelves

    public int body(int kind) {
        return between(kind, 0, Bodies.KINDS - 1) ? bodies.add(kind) : BAD;
    }

    public int act(int body, int act, int x) {
        return bodies.runAct(body, act, x);
    }

    public int trace(int i) {
        return bodies.ranAt(i);
    }

    public int keep(int shelf, int body) {
        if (!shelves.has(shelf) || !between(body, -1, bodies.size - 1)) {
            return BAD;
        }
        shelves.hold(shelf, body);
        return 1;
    }

    public int row(int shelf, int sort, int n) {
        if (!shelves.has(shelf) || !between(sort, BYTES, BOOLEANS) || n > Shelves.LONGEST) {
            return BAD;
        }
        if (n < 0) {
            return NO_SIZE;
        }
        shelves.lay(shelf, sort, n);
        return 1;
    }

    public int put(int shelf, int i, long v) {
        int refused = shelves.placeRefusal(shelf, i);
        if (refused != 0) {
            return refused;
        }
        shelves.store(shelf, i, v);
        return 1;
    }

    public long element(int shelf, int i) {
        return shelves.placeRefusal(shelf, i) == 0 ? shelves.at(shelf, i) : Long.MIN_VALUE;
    }

    public int shift(int shelf, int i, int other, int j, int n) {
        return shelves.move(shelf, i, other, j, n);
    }

    public int taken(int shelf, int k) {
        if (!between(k, 0, Bodies.KINDS - 1)) {
            return BAD;
        }
        int refused = shelves.refusal(shelf, BODY);
        if (refused != 0) {
            return refused;
        }
        int kind = bodies.kindOf(shelves.bodyOn(shelf));
        return Bodies.isUnder(kind, k) ? kind : UNLIKE;
    }

    public int count(int what) {
        switch (what) {
            case 0:
                return office.words;
            case 1:
                return office.people;
            case 2:
                return law.fed;
            case 3:
                return changes.done;
            case 4:
                return bodies.size;
            case 5:
                return bodies.runs;
            default:
                return BAD;
        }
    }

    private static boolean between(int v, int least, int most) {
        return v >= least && v <= most;
    }

    /** Part 0 or 1 of above by below in lowest terms; 0 by 1, where nothing is above or below. */
    private static long inLowest(long above, long below, int part) {
        if (above <= 0 || below <= 0) {
            return part;
        }
        long a = above;
        long b = below;
        for (int i = 0; i < 200 && b != 0; i++) {
            long rest = a % b;
            a = b;
            b = rest;
        }
        if (a <= 0) {
            return part;
        }
        return part == 0 ? above / a : below / a;
    }

    /** The numbers that mend() tells: of WORDS, of PEOPLE, and the office's own. */
    private static final class Office {
        private static final int[] LEAST = {1, 0, 0, 1, 0, 0, 0, 0, 0, 1};
        private static final int[] MOST = {9, 63, 2, 9, 11, 999, 63, 1, 12, 20};

        private final int[][] numbers = new int[FORM + 1][WORDS];
        int words;
        int people;
        // grows with all that a PRICE or a SENSE hangs on
        int age;

        Office() {
            numbers[ERR][0] = 1;
            numbers[FORM][0] = 10;
        }

        boolean has(int number, int what) {
            if (number < 0 || number >= WORDS || what < 0 || what > FORM) {
                return false;
            }
            return number < (what <= SLIP ? words : what <= FEELS ? people : 1);
        }

        boolean fits(int what, int v) {
            if (what < 0 || what > FORM) {
                return false;
            }
            return between(v, LEAST[what], what == SLIP ? words - 1 : MOST[what]);
        }

        int value(int number, int what) {
            return has(number, what) ? numbers[what][number] : 0;
        }

        void set(int number, int what, int v) {
            if (has(number, what)) {
                numbers[what][number] = v;
                age += what <= SORT || what == NIGHT ? 1 : 0;
            }
        }

        int addWord(int cost, int sense, int sort) {
            if (words >= WORDS) {
                return FULL;
            }
            int word = words++;
            set(word, COST, cost);
            set(word, SENSE, sense);
            set(word, SORT, sort);
            set(word, LONG, 5);
            set(word, SLIP, word);
            return word;
        }

        int addPerson(int purse) {
            if (people >= PEOPLE) {
                return FULL;
            }
            int one = people++;
            set(one, PURSE, purse);
            return one;
        }
    }

    /** THE TAPE, and THE LAW: a TEXT is turned once into signs in the order in which they work. */
    private static final class Law {
        private static final int TAPE = 120, OPEN = 6;
        private static final int DEAREST = 99;
        // a byte makes one sign at most, and the end of the TEXT one more
        private static final int SIGNS = TAPE + 1;
        private static final String NAMES = "cslpdw";
        // a minus ahead of an O, told from the one between two P
        private static final char MINUS = '~';

        private final Office office;
        private final int[] tape = new int[TAPE];
        int fed;
        // a sign: a number from 0 on, a NAME (-1 on down), or less an operator's letter
        private int[] signs = new int[SIGNS];
        private int many;
        private int[] draft = new int[SIGNS];
        private int drafted;
        private int at;
        private final int[] named = new int[NAMES.length()];
        private final int[] stack = new int[SIGNS];
        private int top;

        Law(Office office) {
            this.office = office;
        }

        int feedOne(int letter) {
            if (fed < 0 || fed >= TAPE) {
                return FULL;
            }
            tape[fed++] = letter;
            return fed;
        }

        int adopt() {
            boolean fine = readText();
            int answer = fine ? 1 : -100 - at;
            if (fine) {
                int[] spare = signs;
                signs = draft;
                draft = spare;
                many = drafted;
                office.age++;
            }
            fed = 0;
            return answer;
        }

        private boolean readText() {
            at = 0;
            drafted = 0;
            for (int i = 0; i < SIGNS; i++) {
                if (!readLine()) {
                    return false;
                }
                if (at >= fed) {
                    return true;
                }
                if (!takes(';')) {
                    return false;
                }
            }
            return false;
        }

        private boolean readLine() {
            if (!readEither(0)) {
                return false;
            }
            if (takes('?')) {
                emit(-'?');
                if (!readEither(0)) {
                    return false;
                }
            }
            emit(-';');
            return true;
        }

        private boolean readEither(int open) {
            boolean fine = readBoth(open);
            for (int i = 0; i < TAPE && fine && takes('|'); i++) {
                fine = readBoth(open);
                emit(-'|');
            }
            return fine;
        }

        private boolean readBoth(int open) {
            boolean fine = readCompared(open);
            for (int i = 0; i < TAPE && fine && takes('&'); i++) {
                fine = readCompared(open);
                emit(-'&');
            }
            return fine;
        }

        private boolean readCompared(int open) {
            if (!readSum(open)) {
                return false;
            }
            int sign = next();
            if (sign != '<' && sign != '=' && sign != '>') {
                return true;
            }
            at++;
            boolean fine = readSum(open);
            emit(-sign);
            return fine;
        }

        private boolean readSum(int open) {
            boolean fine = readProduct(open);
            for (int i = 0; i < TAPE && fine && (next() == '+' || next() == '-'); i++) {
                int sign = next();
                at++;
                fine = readProduct(open);
                emit(-sign);
            }
            return fine;
        }

        private boolean readProduct(int open) {
            boolean fine = readOperand(open);
            for (int i = 0; i < TAPE && fine && (next() == '*' || next() == '/' || next() == '%'); i++) {
                int sign = next();
                at++;
                fine = readOperand(open);
                emit(-sign);
            }
            return fine;
        }

        private boolean readOperand(int open) {
            int sign = next();
            if (isDigit(sign)) {
                readNumber();
                return true;
            }
            int name = sign < 0 ? -1 : NAMES.indexOf((char) sign);
            if (name >= 0) {
                at++;
                emit(-1 - name);
                return true;
            }
            if (open >= OPEN || sign != '(' && sign != '!' && sign != '-') {
                return false;
            }
            at++;
            if (sign == '(') {
                return readEither(open + 1) && takes(')');
            }
            boolean fine = readOperand(open + 1);
            emit(sign == '-' ? -MINUS : -sign);
            return fine;
        }

        private void readNumber() {
            int number = 0;
            for (int i = 0; i < 4 && isDigit(next()); i++) {
                number = number * 10 + next() - '0';
                at++;
            }
            emit(number);
        }

        private static boolean isDigit(int sign) {
            return sign >= '0' && sign <= '9';
        }

        /** The byte at hand; -1 at the end. */
        private int next() {
            return at >= 0 && at < fed && at < TAPE ? tape[at] : -1;
        }

        private boolean takes(int sign) {
            if (next() != sign) {
                return false;
            }
            at++;
            return true;
        }

        private void emit(int sign) {
            if (drafted >= 0 && drafted < draft.length) {
                draft[drafted++] = sign;
            }
        }

        int priceOf(int word, int ahead, int place) {
            int cost = office.value(word, COST);
            int night = office.value(0, NIGHT);
            if (many == 0) {
                return night == 1 ? cost / 2 : cost;
            }
            named[0] = cost;
            named[1] = office.value(word, SORT);
            named[2] = ahead;
            named[3] = place;
            named[4] = night;
            named[5] = word;
            return Math.max(0, Math.min(DEAREST, worked()));
        }

        private int worked() {
            boolean counts = true;
            top = 0;
            for (int i = 0; i < many && i < signs.length; i++) {
                int sign = signs[i];
                if (sign >= 0) {
                    push(sign);
                } else if (sign >= -named.length) {
                    push(named[-1 - sign]);
                } else if (sign == -'?') {
                    counts = pop() != 0;
                } else if (sign == -';') {
                    int value = pop();
                    if (counts) {
                        return value;
                    }
                    counts = true;
                } else if (sign == -'!') {
                    push(pop() == 0 ? 1 : 0);
                } else if (sign == -MINUS) {
                    push(-pop());
                } else {
                    int right = pop();
                    push(workedOut(-sign, pop(), right));
                }
            }
            return 0;
        }

        private static int workedOut(int sign, int left, int right) {
            switch (sign) {
                case '|':
                    return left != 0 || right != 0 ? 1 : 0;
                case '&':
                    return left != 0 && right != 0 ? 1 : 0;
                case '<':
                    return left < right ? 1 : 0;
                case '=':
                    return left == right ? 1 : 0;
                case '>':
                    return left > right ? 1 : 0;
                case '+':
                    return left + right;
                case '-':
                    return left - right;
                case '*':
                    return left * right;
                case '/':
                    return right == 0 ? 0 : left / right;
                case '%':
                    return right == 0 ? 0 : left % right;
                default:
                    return 0;
            }
        }

        private void push(int v) {
            if (top >= 0 && top < stack.length) {
                stack[top++] = v;
            }
        }

        private int pop() {
            return top > 0 && top <= stack.length ? stack[--top] : 0;
        }
    }

    /** The TELEGRAM that was read last. */
    private static final class Telegram {
        private static final int RUN = 100;

        private final Office office;
        private final Law law;
        private final int[] words = new int[WORDS];
        private final int[] prices = new int[WORDS];
        // by how many WORDS from the first on: 100 times the PRICE, and the runs
        private final int[] least = new int[WORDS + 1];
        int size;

        Telegram(Office office, Law law) {
            this.office = office;
            this.law = law;
        }

        void read(Shelves shelves, int shelf) {
            size = 0;
            int most = Math.min(WORDS, shelves.sizeOf(shelf));
            for (int i = 0; i < most; i++) {
                int word = (int) shelves.at(shelf, i);
                if (!office.has(word, COST)) {
                    return;
                }
                words[i] = word;
                size = i + 1;
            }
        }

        int wordAt(int i) {
            return i >= 0 && i < size && i < WORDS ? words[i] : -1;
        }

        int costs() {
            int sum = 0;
            int ahead = NONE;
            for (int i = 0; i < size && i < WORDS; i++) {
                prices[i] = law.priceOf(words[i], ahead, i);
                sum += prices[i];
                ahead = office.value(words[i], SORT);
            }
            return sum;
        }

        int senseOf() {
            return senseOfFirst(size);
        }

        int senseOfFirst(int n) {
            int sense = 0;
            for (int i = 0; i < n && i < WORDS; i++) {
                sense |= office.value(words[i], SENSE);
            }
            return sense;
        }

        boolean isRight() {
            int last = NONE;
            for (int i = 0; i < size && i < WORDS; i++) {
                int sort = office.value(words[i], SORT);
                if (!follows(last, sort)) {
                    return false;
                }
                last = sort;
            }
            return mayEnd(last);
        }

        /** Whether a WORD of a SORT (WHO, WHAT, HOW; no other one may) may stand behind one of another (NONE: first). */
        static boolean follows(int ahead, int sort) {
            if (ahead == NONE) {
                return sort == WHO;
            }
            return sort == WHAT || sort == HOW && ahead != WHO;
        }

        /** Behind its first WORD only a WHAT may follow: so one that goes on has a WHAT. */
        static boolean mayEnd(int last) {
            return last == WHAT || last == HOW;
        }

        int joinedPrice() {
            return joined() / RUN;
        }

        int joinedRuns() {
            return joined() % RUN;
        }

        private int joined() {
            costs();
            int form = office.value(0, FORM);
            for (int end = 1; end <= size && end <= WORDS; end++) {
                int letters = 0;
                int dearest = 0;
                int best = Integer.MAX_VALUE;
                for (int from = end - 1; from >= 0; from--) {
                    letters += office.value(words[from], LONG);
                    dearest = Math.max(dearest, prices[from]);
                    if (letters <= form || from == end - 1) {
                        best = Math.min(best, least[from] + dearest * RUN + 1);
                    }
                }
                least[end] = best;
            }
            return size >= 0 && size <= WORDS ? least[size] : 0;
        }
    }

    /**
     * The cheapest RIGHT TELEGRAM of each SENSE. It is told as one long: PRICE, how many, and its WORDS
     * by four bits each, so that the least long is the one that comes first.
     */
    private static final class Sayings {
        private static final int PRICE_FROM = 28, MANY_FROM = 24, A_WORD = 4;
        private static final long ALL_WORDS = (1L << MANY_FROM) - 1;

        private final Office office;
        private final Law law;
        private final long[] best = new long[SENSES];
        // by the last SORT and the SENSE; -1: none; how many WORDS is left out
        private long[] now = new long[(NONE + 1) * SENSES];
        private long[] longer = new long[(NONE + 1) * SENSES];
        private int age = -1;

        Sayings(Office office, Law law) {
            this.office = office;
            this.law = law;
        }

        static int priceIn(long said) {
            return (int) (said >> PRICE_FROM);
        }

        static int manyIn(long said) {
            return (int) (said >> MANY_FROM & 15);
        }

        static int wordIn(long said, int k) {
            return (int) (said >> A_WORD * (manyIn(said) - 1 - k) & 15);
        }

        /** The cheapest with all of one set of bits and none of another; -1: none. */
        long cheapest(int wanted, int unwanted) {
            refresh();
            long said = -1;
            for (int sense = 0; sense < SENSES; sense++) {
                if ((sense & wanted) == wanted && (sense & unwanted) == 0) {
                    said = firstOf(said, best[sense]);
                }
            }
            return said;
        }

        /** The SENSE of most bits for v or less; -1: none. */
        int widest(int v) {
            refresh();
            int widest = -1;
            for (int sense = 0; sense < SENSES; sense++) {
                if (isFor(sense, v) && (widest < 0 || Integer.bitCount(sense) > Integer.bitCount(widest))) {
                    widest = sense;
                }
            }
            return widest;
        }

        /** All bits that can be said for v or less. */
        int within(int v) {
            refresh();
            int bits = 0;
            for (int sense = 0; sense < SENSES; sense++) {
                bits |= isFor(sense, v) ? sense : 0;
            }
            return bits;
        }

        private boolean isFor(int sense, int v) {
            return sense >= 0 && sense < SENSES && best[sense] >= 0 && priceIn(best[sense]) <= v;
        }

        private static long firstOf(long a, long b) {
            return a < 0 ? b : b < 0 ? a : Math.min(a, b);
        }

        private void refresh() {
            if (age == office.age) {
                return;
            }
            age = office.age;
            Arrays.fill(best, -1);
            Arrays.fill(now, -1);
            now[NONE * SENSES] = 0;
            for (int place = 0; place < FEW; place++) {
                Arrays.fill(longer, -1);
                for (int word = 0; word < office.words; word++) {
                    for (int ahead = WHO; ahead <= NONE; ahead++) {
                        lengthen(ahead, word, place);
                    }
                }
                long[] spare = now;
                now = longer;
                longer = spare;
                settle(place + 1);
            }
        }

        private void lengthen(int ahead, int word, int place) {
            int sort = office.value(word, SORT);
            if (!Telegram.follows(ahead, sort)) {
                return;
            }
            int more = office.value(word, SENSE);
            int price = -1;
            for (int sense = 0; sense < SENSES; sense++) {
                long said = now[ahead * SENSES + sense];
                if (said >= 0) {
                    price = price < 0 ? law.priceOf(word, ahead, place) : price;
                    long with = (said >> PRICE_FROM) + price << PRICE_FROM | (said & ALL_WORDS) << A_WORD | word;
                    int to = sort * SENSES + (sense | more);
                    if (to >= 0 && to < longer.length) {
                        longer[to] = firstOf(longer[to], with);
                    }
                }
            }
        }

        private void settle(int many) {
            for (int last = WHO; last < NONE; last++) {
                for (int sense = 0; sense < SENSES; sense++) {
                    long said = now[last * SENSES + sense];
                    if (said >= 0 && Telegram.mayEnd(last)) {
                        best[sense] = firstOf(best[sense], said | (long) many << MANY_FROM);
                    }
                }
            }
        }
    }

    /** What the TELEGRAM that was read last may come from, or come as: odds in twelfths a WORD. */
    private static final class Hearing {
        private static final int A_WORD = 4;

        private final Office office;
        private final Telegram telegram;
        // by the last SORT: odds (or how many), and the likeliest one's WORDS
        private long[] now = new long[NONE + 1];
        private long[] longer = new long[NONE + 1];
        private int[] told = new int[NONE + 1];
        private int[] retold = new int[NONE + 1];

        Hearing(Office office, Telegram telegram) {
            this.office = office;
            this.telegram = telegram;
        }

        private int size() {
            return Math.min(FEW, telegram.size);
        }

        private int oddsOf(int word, int cameAs) {
            int err = office.value(0, ERR);
            return (word == cameAs ? TWELVE - err : 0) + (office.value(word, SLIP) == cameAs ? err : 0);
        }

        private void begin() {
            Arrays.fill(now, 0);
            now[NONE] = 1;
            told[NONE] = 0;
        }

        private void swap() {
            long[] spare = now;
            now = longer;
            longer = spare;
            int[] other = told;
            told = retold;
            retold = other;
        }

        /** How many RIGHT ones that have none of some bits may have been sent, or all their odds. */
        long sum(int without, boolean howMany) {
            begin();
            for (int i = 0; i < size(); i++) {
                Arrays.fill(longer, 0);
                for (int word = 0; word < office.words; word++) {
                    int odds = oddsOf(word, telegram.wordAt(i));
                    if ((office.value(word, SENSE) & without) == 0 && odds > 0) {
                        addWord(word, howMany ? 1 : odds);
                    }
                }
                swap();
            }
            return now[WHAT] + now[HOW];
        }

        private void addWord(int word, int odds) {
            int sort = office.value(word, SORT);
            for (int ahead = WHO; ahead <= NONE; ahead++) {
                if (Telegram.follows(ahead, sort)) {
                    longer[sort] += now[ahead] * odds;
                }
            }
        }

        /** The k-th WORD of the likeliest RIGHT one; NOT: there is none. */
        int likeliest(int k) {
            begin();
            for (int i = 0; i < size(); i++) {
                Arrays.fill(longer, 0);
                for (int word = 0; word < office.words; word++) {
                    tryWord(word, oddsOf(word, telegram.wordAt(i)));
                }
                swap();
            }
            int last = isAhead(now[HOW], told[HOW], now[WHAT], told[WHAT]) ? HOW : WHAT;
            if (now[last] == 0 || k >= size()) {
                return NOT;
            }
            return told[last] >> A_WORD * (size() - 1 - k) & 15;
        }

        private void tryWord(int word, int odds) {
            int sort = office.value(word, SORT);
            for (int ahead = WHO; ahead <= NONE; ahead++) {
                if (Telegram.follows(ahead, sort)) {
                    long all = now[ahead] * odds;
                    int words = told[ahead] << A_WORD | word;
                    if (isAhead(all, words, longer[sort], retold[sort])) {
                        longer[sort] = all;
                        retold[sort] = words;
                    }
                }
            }
        }

        private static boolean isAhead(long odds, int words, long otherOdds, int otherWords) {
            return odds > otherOdds || odds == otherOdds && odds > 0 && words < otherWords;
        }

        /** The bits that all RIGHT ones have. */
        int sure() {
            if (sum(0, true) == 0) {
                return 0;
            }
            int bits = 0;
            for (int bit = 0; bit < BITS; bit++) {
                bits |= sum(1 << bit, true) == 0 ? 1 << bit : 0;
            }
            return bits;
        }

        long allOdds() {
            long all = 1;
            for (int i = 0; i < size(); i++) {
                all *= TWELVE;
            }
            return all;
        }

        /** Of allOdds(), those by which it comes with just its own SENSE. */
        long unharmed() {
            int own = telegram.senseOfFirst(size());
            int sets = 1 << size();
            long sum = 0;
            for (int slipped = 0; slipped < sets; slipped++) {
                if (senseWith(slipped) == own) {
                    sum += oddsWith(slipped);
                }
            }
            return sum;
        }

        private int senseWith(int slipped) {
            int sense = 0;
            for (int i = 0; i < size(); i++) {
                int word = telegram.wordAt(i);
                sense |= office.value(isIn(slipped, i) ? office.value(word, SLIP) : word, SENSE);
            }
            return sense;
        }

        private long oddsWith(int slipped) {
            int err = office.value(0, ERR);
            long odds = 1;
            for (int i = 0; i < size(); i++) {
                odds *= isIn(slipped, i) ? err : TWELVE - err;
            }
            return odds;
        }

        /** Of drawn TELEGRAMS of three WORDS, how many were RIGHT, or else came with another SENSE. */
        int draws(int seed, int many, boolean rightOnes) {
            int words = office.words;
            int err = office.value(0, ERR);
            int found = 0;
            int z = seed;
            for (int i = 0; i < many && words > 0; i++) {
                int last = NONE;
                int sent = 0;
                int came = 0;
                boolean right = true;
                for (int k = 0; k < 3; k++) {
                    z = z * 1103515245 + 12345;
                    int word = (z >>> 10) % words;
                    boolean slips = (z >>> 18) % TWELVE < err;
                    right = right && Telegram.follows(last, office.value(word, SORT));
                    last = office.value(word, SORT);
                    sent |= office.value(word, SENSE);
                    came |= office.value(slips ? office.value(word, SLIP) : word, SENSE);
                }
                found += (rightOnes ? right && Telegram.mayEnd(last) : sent != came) ? 1 : 0;
            }
            return found;
        }
    }

    /** What is LED, and AN IMAGE. */
    private static final class Deeds {
        private static final int WIRES = 0, SENT_WORDS = 1, HALFPENCE = 2, REFUSED = 3, AT_NIGHT = 4;

        private final Office office;
        final int[] led = new int[AT_NIGHT + 1];
        private boolean kept;
        private int people;
        private int night;
        private final int[] purses = new int[PEOPLE];
        private final int[] feelings = new int[PEOPLE];
        private final int[] ledThen = new int[AT_NIGHT + 1];

        Deeds(Office office) {
            this.office = office;
        }

        int refuse(int answer) {
            led[REFUSED]++;
            return answer;
        }

        void noteWire(int words, int paid) {
            led[WIRES]++;
            led[SENT_WORDS] += words;
            led[HALFPENCE] += paid;
            led[AT_NIGHT] += office.value(0, NIGHT);
        }

        int keepImage() {
            kept = true;
            people = office.people;
            night = office.value(0, NIGHT);
            for (int one = 0; one < people && one < PEOPLE; one++) {
                purses[one] = office.value(one, PURSE);
                feelings[one] = office.value(one, FEELS);
            }
            System.arraycopy(led, 0, ledThen, 0, led.length);
            return led[WIRES];
        }

        int layBack() {
            if (!kept) {
                return STATE;
            }
            office.set(0, NIGHT, night);
            for (int one = 0; one < people && one < PEOPLE; one++) {
                office.set(one, PURSE, purses[one]);
                office.set(one, FEELS, feelings[one]);
            }
            System.arraycopy(ledThen, 0, led, 0, led.length);
            return led[WIRES];
        }
    }

    /** The latest CHANGES: those done, and behind them those undone. */
    private static final class Changes {
        private static final int MOST = 40;

        private final Office office;
        private final int[] numbers = new int[MOST];
        private final int[] whats = new int[MOST];
        private final int[] olds = new int[MOST];
        private final int[] news = new int[MOST];
        int done;
        private int size;

        Changes(Office office) {
            this.office = office;
        }

        void note(int number, int what, int old, int now) {
            if (done < 0 || done >= MOST) {
                dropFirst();
            }
            numbers[done] = number;
            whats[done] = what;
            olds[done] = old;
            news[done] = now;
            done++;
            size = done;
        }

        private void dropFirst() {
            System.arraycopy(numbers, 1, numbers, 0, MOST - 1);
            System.arraycopy(whats, 1, whats, 0, MOST - 1);
            System.arraycopy(olds, 1, olds, 0, MOST - 1);
            System.arraycopy(news, 1, news, 0, MOST - 1);
            done = MOST - 1;
        }

        int undoOne() {
            if (done <= 0 || done > MOST) {
                return STATE;
            }
            done--;
            office.set(numbers[done], whats[done], olds[done]);
            return done;
        }

        int redoOne() {
            if (done < 0 || done >= size || done >= MOST) {
                return STATE;
            }
            office.set(numbers[done], whats[done], news[done]);
            done++;
            return size - done;
        }
    }

    /** BODIES and their ACTS: each act climbs from a KIND to the next one above that has a body of it. */
    private static final class Bodies {
        static final int KINDS = 8;
        private static final int WIRE = 0, FORM = 1, CLERK = 2, STOP = 3, GRIEF = 4, BOY = 5, COW = 6, PENCIL = 7;
        private static final int[] ABOVE = {-1, WIRE, WIRE, CLERK, FORM, STOP, WIRE, COW};
        private static final int MOST = 50, KEPT = 24;

        private final int[] kinds = new int[MOST];
        int size;
        private final int[] ran = new int[KEPT];
        int runs;
        // of the body that acts
        private int number;
        private int own;

        int add(int kind) {
            if (size < 0 || size >= MOST) {
                return FULL;
            }
            kinds[size] = kind;
            return size++;
        }

        int kindOf(int body) {
            return body >= 0 && body < size && body < MOST ? kinds[body] : -1;
        }

        private static int above(int kind) {
            return kind >= 0 && kind < KINDS ? ABOVE[kind] : -1;
        }

        static boolean isUnder(int kind, int other) {
            int at = kind;
            for (int i = 0; i < KINDS && at >= 0; i++) {
                if (at == other) {
                    return true;
                }
                at = above(at);
            }
            return false;
        }

        int ranAt(int i) {
            return i >= 0 && i < runs && i < KEPT ? ran[i] : BAD;
        }

        int runAct(int body, int act, int x) {
            runs = 0;
            number = body;
            own = kindOf(body);
            switch (act) {
                case 0:
                    return says(own, x);
                case 1:
                    return costs(own, x);
                case 2:
                    return errs(own, x);
                case 3:
                    return tells(own, x);
                default:
                    return 0;
            }
        }

        private void begins(int body) {
            if (runs >= 0 && runs < KEPT) {
                ran[runs] = body;
            }
            runs++;
        }

        // A KIND's number is above that of the KIND above it: no climb goes more than KINDS levels.

        private int says(int kind, int x) {
            switch (kind) {
                case WIRE:
                    begins(1);
                    return x + number;
                case FORM:
                    begins(20);
                    return says(above(kind), x) + 3;
                case COW:
                    begins(70);
                    return says(above(kind), x) * 2;
                case PENCIL:
                    begins(81);
                    return says(above(kind), x) - 1;
                default:
                    return kind < 0 ? 0 : says(above(kind), x);
            }
        }

        private int costs(int kind, int x) {
            switch (kind) {
                case WIRE:
                    begins(10);
                    return says(own, x) * 2;
                case CLERK:
                    begins(30);
                    return -costs(above(kind), x);
                case STOP:
                    begins(41);
                    return costs(above(kind), x + 1);
                case PENCIL:
                    begins(80);
                    int paid = costs(above(kind), x);
                    return paid + errs(own, 2);
                default:
                    return kind < 0 ? 0 : costs(above(kind), x);
            }
        }

        private int errs(int kind, int x) {
            switch (kind) {
                case WIRE:
                    begins(11);
                    return x ^ number;
                case STOP:
                    begins(40);
                    return errs(above(kind), x) * 3;
                case BOY:
                    begins(60);
                    int erred = errs(above(kind), x);
                    return erred - says(own, 2);
                default:
                    return kind < 0 ? 0 : errs(above(kind), x);
            }
        }

        private int tells(int kind, int x) {
            switch (kind) {
                case WIRE:
                    begins(2);
                    int cost = costs(own, x);
                    return cost - errs(own, 1);
                case GRIEF:
                    begins(50);
                    return tells(above(kind), x) ^ 5;
                case BOY:
                    begins(61);
                    return tells(above(kind), x) + 1;
                default:
                    return kind < 0 ? 0 : tells(above(kind), x);
            }
        }
    }

    /** What stands on the SHELVES; a ROW's elements are kept as longs, cut to their sort when put in. */
    private static final class Shelves {
        static final int LONGEST = 60;
        private static final int SHELVES = 6, EMPTY = -1;

        private final int[] sorts = new int[SHELVES];
        private final int[] sizes = new int[SHELVES];
        private final int[] bodies = new int[SHELVES];
        private final long[][] elements = new long[SHELVES][LONGEST];

        Shelves() {
            Arrays.fill(sorts, EMPTY);
        }

        boolean has(int shelf) {
            return shelf >= 0 && shelf < SHELVES;
        }

        /** 0, or why a SHELF holds nothing of this sort (BODY, too). */
        int refusal(int shelf, int sort) {
            if (!has(shelf)) {
                return BAD;
            }
            if (sorts[shelf] == EMPTY) {
                return NOTHING;
            }
            return sorts[shelf] == sort ? 0 : UNLIKE;
        }

        /** 0, or why there is no element i. */
        int placeRefusal(int shelf, int i) {
            if (!has(shelf)) {
                return BAD;
            }
            if (sorts[shelf] == EMPTY) {
                return NOTHING;
            }
            if (sorts[shelf] == BODY) {
                return UNLIKE;
            }
            return i >= 0 && i < sizes[shelf] ? 0 : NO_PLACE;
        }

        int sizeOf(int shelf) {
            return has(shelf) ? sizes[shelf] : 0;
        }

        int bodyOn(int shelf) {
            return has(shelf) ? bodies[shelf] : -1;
        }

        /** A BODY; -1: nothing. */
        void hold(int shelf, int body) {
            if (has(shelf)) {
                sorts[shelf] = body < 0 ? EMPTY : BODY;
                sizes[shelf] = 0;
                bodies[shelf] = body;
            }
        }

        void lay(int shelf, int sort, int n) {
            if (has(shelf) && n >= 0 && n <= LONGEST) {
                sorts[shelf] = sort;
                sizes[shelf] = n;
                Arrays.fill(elements[shelf], 0);
            }
        }

        long at(int shelf, int i) {
            return has(shelf) && i >= 0 && i < sizes[shelf] && i < LONGEST ? elements[shelf][i] : 0;
        }

        void store(int shelf, int i, long v) {
            if (has(shelf) && i >= 0 && i < sizes[shelf] && i < LONGEST) {
                elements[shelf][i] = cut(sorts[shelf], v);
            }
        }

        private static long cut(int sort, long v) {
            switch (sort) {
                case BYTES:
                    return (byte) v;
                case SHORTS:
                    return (short) v;
                case LONGS:
                    return v;
                case BOOLEANS:
                    return v != 0 ? 1 : 0;
                default:
                    return (int) v;
            }
        }

        int move(int shelf, int i, int other, int j, int n) {
            if (!has(shelf) || !has(other)) {
                return BAD;
            }
            if (sorts[shelf] == EMPTY || sorts[other] == EMPTY) {
                return NOTHING;
            }
            if (sorts[shelf] == BODY || sorts[shelf] != sorts[other]) {
                return UNLIKE;
            }
            if (n < 0 || i < 0 || j < 0 || i > sizes[shelf] - n || j > sizes[other] - n) {
                return NO_PLACE;
            }
            System.arraycopy(elements[shelf], i, elements[other], j, n);
            return n;
        }
    }
}
