import java.lang.reflect.Method;
import java.util.ArrayList;
import java.util.Arrays;
import java.util.List;
import java.util.Random;
import java.util.TreeMap;

/**
 * Random runs, each on a new object and on a slow model that follows DOC.md by trying everything out:
 * every answer of the two must be the same.
 */
public final class ReferenceTest {

    /** A refusal. */
    private static final class No extends RuntimeException {
        final int answer;

        No(int answer) {
            super(null, null, false, false);
            this.answer = answer;
        }
    }

    private static void want(boolean fine, int answer) {
        if (!fine) {
            throw new No(answer);
        }
    }

    private static final class W {
        int cost, sense, sort = 1, letters = 5, slip;
    }

    private static final class P {
        int purse, feels;
    }

    private static final class Row {
        final int sort;
        final long[] v;

        Row(int sort, int n) {
            this.sort = sort;
            this.v = new long[n];
        }
    }

    private static final class Change {
        int number, what, old, now;
    }

    private static final class Image {
        final List<int[]> people = new ArrayList<>();
        int night;
        int[] led;
    }

    static final class Model {
        final List<W> ws = new ArrayList<>();
        final List<P> ps = new ArrayList<>();
        int nightNow, err = 1, form = 10;
        StringBuilder tape = new StringBuilder();
        String text;
        final Object[] shelves = new Object[6];
        final List<Integer> bodies = new ArrayList<>();
        List<Integer> ran = new ArrayList<>();
        final List<Change> done = new ArrayList<>(), undone = new ArrayList<>();
        int[] ledger = new int[5];
        Image image;

        // ---- words, people

        int word(int cost, int sense) {
            want(cost >= 1 && cost <= 9 && sense >= 0 && sense <= 63, -1);
            want(ws.size() < 12, -3);
            W w = new W();
            w.cost = cost;
            w.sense = sense;
            w.slip = ws.size();
            ws.add(w);
            return ws.size() - 1;
        }

        int words(int shelf, int i, int n) {
            want(shelf >= 0 && shelf <= 5 && n >= 1 && n <= 12, -1);
            Object o = shelves[shelf];
            want(o == null || o instanceof Row && ((Row) o).sort == 0, -12);
            if (o == null || i < 0) {
                return 0;
            }
            long[] v = ((Row) o).v;
            int came = 0;
            for (long at = i; came < n && at + 2 < v.length; at += 3) {
                long c = v[(int) at], s = v[(int) at + 1], t = v[(int) at + 2];
                if (c < 1 || c > 9 || s < 0 || s > 63 || t < 0 || t > 2 || ws.size() == 12) {
                    break;
                }
                word((int) c, (int) s);
                ws.get(ws.size() - 1).sort = (int) t;
                came++;
            }
            return came;
        }

        int person(int purse) {
            want(purse >= 0 && purse <= 999, -1);
            want(ps.size() < 6, -3);
            P p = new P();
            p.purse = purse;
            ps.add(p);
            return ps.size() - 1;
        }

        int of(int number, int what) {
            want(what >= 0 && what <= 9 && number >= 0, -1);
            if (what <= 4) {
                want(number < ws.size(), -1);
                W w = ws.get(number);
                return new int[] {w.cost, w.sense, w.sort, w.letters, w.slip}[what];
            }
            if (what <= 6) {
                want(number < ps.size(), -1);
                return what == 5 ? ps.get(number).purse : ps.get(number).feels;
            }
            want(number == 0, -1);
            return what == 7 ? nightNow : what == 8 ? err : form;
        }

        void set(int number, int what, int v) {
            switch (what) {
                case 0: ws.get(number).cost = v; break;
                case 1: ws.get(number).sense = v; break;
                case 2: ws.get(number).sort = v; break;
                case 3: ws.get(number).letters = v; break;
                case 4: ws.get(number).slip = v; break;
                case 5: ps.get(number).purse = v; break;
                case 6: ps.get(number).feels = v; break;
                case 7: nightNow = v; break;
                case 8: err = v; break;
                default: form = v;
            }
        }

        int mend(int number, int what, int v) {
            int was = of(number, what);
            int[][] may = {{1, 9}, {0, 63}, {0, 2}, {1, 9}, {0, ws.size() - 1}, {0, 999}, {0, 63}, {0, 1}, {0, 12}, {1, 20}};
            want(v >= may[what][0] && v <= may[what][1], -1);
            if (was != v) {
                Change c = new Change();
                c.number = number;
                c.what = what;
                c.old = was;
                c.now = v;
                set(number, what, v);
                done.add(c);
                undone.clear();
                if (done.size() > 40) {
                    done.remove(0);
                }
            }
            return was;
        }

        int undo() {
            want(!done.isEmpty(), -5);
            Change c = done.remove(done.size() - 1);
            set(c.number, c.what, c.old);
            undone.add(c);
            return done.size();
        }

        int redo() {
            want(!undone.isEmpty(), -5);
            Change c = undone.remove(undone.size() - 1);
            set(c.number, c.what, c.now);
            done.add(c);
            return undone.size();
        }

        int feed(int letter) {
            want(letter >= 0 && letter <= 255, -1);
            want(tape.length() < 120, -3);
            tape.append((char) letter);
            return tape.length();
        }

        int law() {
            String told = tape.toString();
            tape = new StringBuilder();
            int fault = fault(told);
            if (fault >= 0) {
                return -100 - fault;
            }
            text = told;
            return 1;
        }

        /** The grammar as a machine that reads bytes and keeps what is open; -1: a TEXT. */
        static int fault(String t) {
            StringBuilder open = new StringBuilder();
            boolean operand = true;
            boolean asked = false;
            // whether a comparison is told, for the outermost and for each parenthesis
            boolean[] compared = new boolean[10];
            int depth = 0;
            int digits = 0;
            for (int i = 0; i < t.length(); i++) {
                char c = t.charAt(i);
                if (operand) {
                    if ("!-(".indexOf(c) >= 0) {
                        if (open.length() == 6) {
                            return i;
                        }
                        open.append(c);
                        if (c == '(') {
                            compared[++depth] = false;
                        }
                        continue;
                    }
                    if ("0123456789".indexOf(c) >= 0) {
                        digits = 1;
                    } else if ("cslpdw".indexOf(c) >= 0) {
                        digits = 4;
                    } else {
                        return i;
                    }
                    operand = false;
                    close(open);
                    continue;
                }
                if ("0123456789".indexOf(c) >= 0) {
                    if (digits >= 4) {
                        return i;
                    }
                    digits++;
                    continue;
                }
                digits = 4;
                if (c == ')') {
                    if (depth == 0) {
                        return i;
                    }
                    depth--;
                    open.setLength(open.length() - 1);
                    close(open);
                    continue;
                }
                if (c == '?' || c == ';') {
                    if (depth > 0 || c == '?' && asked) {
                        return i;
                    }
                    asked = c == '?';
                    compared[0] = false;
                } else if (c == '|' || c == '&') {
                    compared[depth] = false;
                } else if (c == '<' || c == '=' || c == '>') {
                    if (compared[depth]) {
                        return i;
                    }
                    compared[depth] = true;
                } else if ("+-*/%".indexOf(c) < 0) {
                    return i;
                }
                operand = true;
            }
            return operand || depth > 0 ? t.length() : -1;
        }

        private static void close(StringBuilder open) {
            while (open.length() > 0 && open.charAt(open.length() - 1) != '(') {
                open.setLength(open.length() - 1);
            }
        }

        /** A TEXT's E by its weakest operator that stands last outside of parentheses. */
        static int value(String e, int[] named) {
            String[] weak = {"|", "&", "<=>", "+-", "*/%"};
            for (String signs : weak) {
                int depth = 0;
                for (int i = e.length() - 1; i > 0; i--) {
                    char c = e.charAt(i);
                    depth += c == ')' ? 1 : c == '(' ? -1 : 0;
                    boolean behindOperand = "0123456789cslpdw)".indexOf(e.charAt(i - 1)) >= 0;
                    if (depth == 0 && signs.indexOf(c) >= 0 && behindOperand) {
                        int a = value(e.substring(0, i), named);
                        int b = value(e.substring(i + 1), named);
                        switch (c) {
                            case '|': return a != 0 | b != 0 ? 1 : 0;
                            case '&': return a != 0 & b != 0 ? 1 : 0;
                            case '<': return a < b ? 1 : 0;
                            case '=': return a == b ? 1 : 0;
                            case '>': return a > b ? 1 : 0;
                            case '+': return a + b;
                            case '-': return a - b;
                            case '*': return a * b;
                            case '/': return b == 0 ? 0 : a / b;
                            default: return b == 0 ? 0 : a % b;
                        }
                    }
                }
            }
            char c = e.charAt(0);
            if (c == '!') {
                return value(e.substring(1), named) == 0 ? 1 : 0;
            }
            if (c == '-') {
                return -value(e.substring(1), named);
            }
            if (c == '(') {
                return value(e.substring(1, e.length() - 1), named);
            }
            int name = "cslpdw".indexOf(c);
            return name >= 0 ? named[name] : Integer.parseInt(e);
        }

        int cost(int word, int ahead, int place) {
            W w = ws.get(word);
            if (text == null) {
                return nightNow == 1 ? w.cost / 2 : w.cost;
            }
            int[] named = {w.cost, w.sort, ahead, place, nightNow, word};
            for (String line : text.split(";")) {
                int ask = line.indexOf('?');
                if (ask < 0 || value(line.substring(0, ask), named) != 0) {
                    return Math.min(99, Math.max(0, value(line.substring(ask + 1), named)));
                }
            }
            return 0;
        }

        int price(int word, int lp) {
            want(word >= 0 && word < ws.size() && lp >= 0 && lp <= 399 && lp % 100 <= 11, -1);
            return cost(word, lp / 100, lp % 100);
        }

        // ---- telegrams in thought

        int[] telegram(int shelf) {
            want(shelf >= 0 && shelf <= 5, -1);
            want(shelves[shelf] != null, -11);
            want(shelves[shelf] instanceof Row && ((Row) shelves[shelf]).sort == 0, -12);
            long[] v = ((Row) shelves[shelf]).v;
            int n = 0;
            while (n < 12 && n < v.length && v[n] >= 0 && v[n] < ws.size()) {
                n++;
            }
            int[] t = new int[n];
            for (int i = 0; i < n; i++) {
                t[i] = (int) v[i];
            }
            return t;
        }

        int[] prices(int[] t) {
            int[] p = new int[t.length];
            for (int i = 0; i < t.length; i++) {
                p[i] = cost(t[i], i == 0 ? 3 : ws.get(t[i - 1]).sort, i);
            }
            return p;
        }

        int sum(int[] t) {
            int s = 0;
            for (int p : prices(t)) {
                s += p;
            }
            return s;
        }

        int sense(int[] t) {
            int s = 0;
            for (int w : t) {
                s |= ws.get(w).sense;
            }
            return s;
        }

        boolean right(int[] t) {
            boolean what = false;
            for (int i = 0; i < t.length; i++) {
                int sort = ws.get(t[i]).sort;
                if ((sort == 0) != (i == 0)) {
                    return false;
                }
                if (sort == 2 && (i == 0 || ws.get(t[i - 1]).sort == 0)) {
                    return false;
                }
                what |= sort == 1;
            }
            return what;
        }

        /** PRICE and runs by the best way to join, all ways tried. */
        int[] joined(int[] t) {
            int[] p = prices(t);
            int[] best = {Integer.MAX_VALUE, 0};
            if (t.length == 0) {
                return new int[2];
            }
            for (int cuts = 0; cuts < 1 << t.length - 1; cuts++) {
                int price = 0, runs = 0, letters = 0, dear = 0, many = 0;
                boolean may = true;
                for (int i = 0; i < t.length; i++) {
                    letters += ws.get(t[i]).letters;
                    dear = Math.max(dear, p[i]);
                    many++;
                    if (i == t.length - 1 || (cuts >> i & 1) == 1) {
                        may &= many == 1 || letters <= form;
                        price += dear;
                        runs++;
                        letters = 0;
                        dear = 0;
                        many = 0;
                    }
                }
                if (may && (price < best[0] || price == best[0] && runs < best[1])) {
                    best = new int[] {price, runs};
                }
            }
            return best;
        }

        int wire(int shelf, int what) {
            want(what >= 0 && what <= 5, -1);
            int[] t = telegram(shelf);
            return what == 0 ? sum(t) : what == 1 ? sense(t) : what == 2 ? (right(t) ? 1 : 0)
                    : what == 3 ? t.length : joined(t)[what - 4];
        }

        /** A RIGHT one, and what it costs. */
        private static final class Said {
            int[] t;
            int price;
        }

        /** All RIGHT ones that begin so are tried. */
        private void each(int[] t, int n, int price, int sense, int[][][] costs) {
            for (int w = 0; w < ws.size() && n < 6; w++) {
                int ahead = n == 0 ? 3 : ws.get(t[n - 1]).sort;
                t[n] = w;
                int[] longer = n == 0 ? null : Arrays.copyOf(t, n + 1);
                if (n == 0 ? ws.get(w).sort == 0 : right(longer)) {
                    if (costs[w][ahead][n] < 0) {
                        costs[w][ahead][n] = cost(w, ahead, n);
                    }
                    Said said = new Said();
                    said.t = longer;
                    said.price = price + costs[w][ahead][n];
                    int its = sense | ws.get(w).sense;
                    if (n > 0 && isBetter(said, bySense.get(its))) {
                        bySense.put(its, said);
                    }
                    each(t, n + 1, said.price, its, costs);
                }
            }
        }

        private static boolean isBetter(Said a, Said b) {
            if (b == null || a.price != b.price) {
                return b == null || a.price < b.price;
            }
            return a.t.length < b.t.length || a.t.length == b.t.length && isAhead(a.t, b.t);
        }

        private static boolean isAhead(int[] a, int[] b) {
            for (int i = 0; i < a.length; i++) {
                if (a[i] != b[i]) {
                    return a[i] < b[i];
                }
            }
            return false;
        }

        // the RIGHT ones by SENSE: kept as long as nothing they hang on is told anew
        private String told = "";
        private final TreeMap<Integer, Said> bySense = new TreeMap<>();

        private TreeMap<Integer, Said> cheapest() {
            StringBuilder b = new StringBuilder().append(text).append(' ').append(nightNow);
            for (W w : ws) {
                b.append(' ').append(w.cost).append(' ').append(w.sense).append(' ').append(w.sort);
            }
            if (!b.toString().equals(told)) {
                told = b.toString();
                bySense.clear();
                int[][][] costs = new int[12][4][6];
                for (int[][] c : costs) {
                    for (int[] d : c) {
                        Arrays.fill(d, -1);
                    }
                }
                each(new int[6], 0, 0, 0, costs);
            }
            return bySense;
        }

        int say(int yn, int k) {
            want(yn >= 0 && yn < 4096 && k >= -2, -1);
            int yes = yn / 64, no = yn % 64;
            Said best = null;
            for (int s : cheapest().keySet()) {
                if ((s & yes) == yes && (s & no) == 0 && isBetter(bySense.get(s), best)) {
                    best = bySense.get(s);
                }
            }
            want(best != null && k < best.t.length, -2);
            return k == -1 ? best.price : k == -2 ? best.t.length : best.t[k];
        }

        int allFor(int v, int what) {
            want(v >= 0 && v <= 999 && what >= 0 && what <= 1, -1);
            int most = -1, bits = 0;
            for (int s : cheapest().keySet()) {
                if (bySense.get(s).price <= v && Integer.bitCount(s) > most) {
                    most = Integer.bitCount(s);
                    bits = s;
                }
            }
            want(most >= 0, -2);
            return what == 0 ? most : bits;
        }

        int tooDear(int one) {
            int purse = of(one, 5);
            int bits = 63;
            for (int s : cheapest().keySet()) {
                if (bySense.get(s).price <= purse) {
                    bits &= ~s;
                }
            }
            return bits;
        }

        int year(int shelf, int one, int what) {
            want(shelf >= 0 && shelf <= 5 && one >= 0 && one < ps.size() && what >= 0 && what <= 1, -1);
            want(shelves[shelf] != null, -11);
            want(shelves[shelf] instanceof Row && ((Row) shelves[shelf]).sort == 1, -12);
            long[] v = ((Row) shelves[shelf]).v;
            List<long[]> twos = new ArrayList<>();
            for (int i = 0; i + 1 < v.length && twos.size() < 8; i += 2) {
                if (v[i] < 0 || v[i] > 999 || v[i + 1] < 0 || v[i + 1] > 999) {
                    break;
                }
                twos.add(new long[] {v[i], v[i + 1]});
            }
            long most = -1;
            int bits = 0;
            for (int set = 0; set < 1 << twos.size(); set++) {
                long price = 0, worth = 0;
                for (int i = 0; i < twos.size(); i++) {
                    if ((set >> i & 1) == 1) {
                        price += twos.get(i)[0];
                        worth += twos.get(i)[1];
                    }
                }
                if (price <= ps.get(one).purse && worth > most) {
                    most = worth;
                    bits = set;
                }
            }
            return what == 0 ? (int) most : bits;
        }

        // ---- errors, senders

        int odds(int word, int came) {
            int slip = ws.get(word).slip;
            if (slip == word) {
                return came == word ? 12 : 0;
            }
            return came == word ? 12 - err : came == slip ? err : 0;
        }

        int[] heard(int shelf) {
            int[] t = telegram(shelf);
            return Arrays.copyOf(t, Math.min(6, t.length));
        }

        /** All RIGHT ones that may have been sent, with their odds. */
        List<Object[]> sent(int[] t) {
            List<Object[]> found = new ArrayList<>();
            sent(t, new int[0], 1, found);
            return found;
        }

        private void sent(int[] t, int[] ahead, long odds, List<Object[]> found) {
            if (ahead.length == t.length) {
                if (right(ahead)) {
                    found.add(new Object[] {ahead, odds});
                }
                return;
            }
            for (int w = 0; w < ws.size(); w++) {
                int o = odds(w, t[ahead.length]);
                if (o > 0) {
                    int[] next = Arrays.copyOf(ahead, ahead.length + 1);
                    next[ahead.length] = w;
                    sent(t, next, odds * o, found);
                }
            }
        }

        long came(int shelf) {
            return sent(heard(shelf)).size();
        }

        int cameAs(int shelf, int k) {
            want(k >= 0, -1);
            long best = 0;
            int[] likeliest = null;
            for (Object[] s : sent(heard(shelf))) {
                if ((Long) s[1] > best) {
                    best = (Long) s[1];
                    likeliest = (int[]) s[0];
                }
            }
            want(likeliest != null && k < likeliest.length, -2);
            return likeliest[k];
        }

        static long fraction(long a, long b, int part) {
            if (a == 0) {
                return part;
            }
            long d = java.math.BigInteger.valueOf(a).gcd(java.math.BigInteger.valueOf(b)).longValue();
            return part == 0 ? a / d : b / d;
        }

        long meant(int shelf, int bit, int part) {
            want(bit >= 0 && bit <= 5 && part >= 0 && part <= 1, -1);
            long with = 0, all = 0;
            for (Object[] s : sent(heard(shelf))) {
                all += (Long) s[1];
                with += (sense((int[]) s[0]) >> bit & 1) * (Long) s[1];
            }
            return fraction(with, all, part);
        }

        int certain(int shelf) {
            int bits = 63;
            List<Object[]> sent = sent(heard(shelf));
            for (Object[] s : sent) {
                bits &= sense((int[]) s[0]);
            }
            return sent.isEmpty() ? 0 : bits;
        }

        long safe(int shelf, int part) {
            want(part >= 0 && part <= 1, -1);
            int[] t = heard(shelf);
            // odds by SENSE, WORD by WORD
            long[] odds = new long[64];
            odds[0] = 1;
            long all = 1;
            for (int w : t) {
                long[] next = new long[64];
                for (int s = 0; s < 64; s++) {
                    next[s | ws.get(w).sense] += odds[s] * (12 - err);
                    next[s | ws.get(ws.get(w).slip).sense] += odds[s] * err;
                }
                odds = next;
                all *= 12;
            }
            return fraction(odds[sense(t)], all, part);
        }

        int unsigned(int shelf, int what) {
            want(what >= 0 && what <= 1, -1);
            int[] t = telegram(shelf);
            int who = 0, best = -1;
            for (int i = 0; i < ps.size(); i++) {
                P p = ps.get(i);
                if ((p.feels & sense(t)) == sense(t) && p.purse >= sum(t)) {
                    who |= 1 << i;
                    best = best < 0 || p.purse > ps.get(best).purse ? i : best;
                }
            }
            want(what == 0 || best >= 0, -2);
            return what == 0 ? who : best;
        }

        int club(int set, int v, int one) {
            want(set >= 0 && set < 1 << ps.size() && v >= 0 && v <= 999 && one >= 0 && one < ps.size(), -1);
            List<Integer> members = new ArrayList<>();
            int all = 0;
            for (int i = 0; i < ps.size(); i++) {
                if ((set & 1 << i) != 0) {
                    members.add(i);
                    all += ps.get(i).purse;
                }
            }
            want(members.contains(one) && all >= v, -2);
            int[] share = new int[6];
            int left = v;
            for (int i : members) {
                share[i] = all == 0 ? 0 : v * ps.get(i).purse / all;
                left -= share[i];
            }
            for (int i = 0; left > 0; i++, left--) {
                share[members.get(i % members.size())]++;
            }
            return share[one];
        }

        int lacks(int what) {
            want(what >= 0 && what <= 1, -1);
            int all = 0, best = -1;
            for (int i = 0; i < ws.size(); i++) {
                W w = ws.get(i);
                all |= w.sense;
                if (w.sense != 0 && (best < 0 || (double) w.cost / Integer.bitCount(w.sense)
                        > (double) ws.get(best).cost / Integer.bitCount(ws.get(best).sense) + 1e-9)) {
                    best = i;
                }
            }
            want(what == 0 || best >= 0, -2);
            return what == 0 ? 63 - all : best;
        }

        int drawn(int seed, int nm, int what) {
            int n = nm / 100, m = nm % 100;
            want(n >= 1 && n <= 30 && m >= 1 && m <= 20 && what >= 0 && what <= 1, -1);
            int z = seed, found = 0;
            for (int i = 0; i < n * m && !ws.isEmpty(); i++) {
                int[] t = new int[3], c = new int[3];
                for (int k = 0; k < 3; k++) {
                    z = z * 1103515245 + 12345;
                    t[k] = (z >>> 10) % ws.size();
                    c[k] = (z >>> 18) % 12 < err ? ws.get(t[k]).slip : t[k];
                }
                found += what == 0 ? (right(t) ? 1 : 0) : sense(t) != sense(c) ? 1 : 0;
            }
            return found;
        }

        // ---- in deed

        int send(int shelf, int ab) {
            int a = ab / 10, b = ab % 10;
            want(ab >= 0 && a < ps.size() && b < ps.size() && a != b, -1);
            int[] t = telegram(shelf);
            if (!right(t)) {
                ledger[3]++;
                return -2;
            }
            if ((sense(t) & ~ps.get(a).feels) != 0 || sum(t) > ps.get(a).purse) {
                ledger[3]++;
                return -5;
            }
            ps.get(a).purse -= sum(t);
            ps.get(b).feels |= sense(t);
            ledger[0]++;
            ledger[1] += t.length;
            ledger[2] += sum(t);
            ledger[4] += nightNow;
            return sum(t);
        }

        int night() {
            nightNow ^= 1;
            return nightNow;
        }

        int led(int what) {
            want(what >= 0 && what <= 4, -1);
            return ledger[what];
        }

        int image() {
            image = new Image();
            image.night = nightNow;
            image.led = ledger.clone();
            for (P p : ps) {
                image.people.add(new int[] {p.purse, p.feels});
            }
            return ledger[0];
        }

        int back() {
            want(image != null, -5);
            nightNow = image.night;
            ledger = image.led.clone();
            for (int i = 0; i < image.people.size(); i++) {
                ps.get(i).purse = image.people.get(i)[0];
                ps.get(i).feels = image.people.get(i)[1];
            }
            return ledger[0];
        }

        // ---- acts, shelves

        int body(int kind) {
            want(kind >= 0 && kind <= 7, -1);
            want(bodies.size() < 50, -3);
            bodies.add(kind);
            return bodies.size() - 1;
        }

        static final int[] ABOVE = {-1, 0, 0, 2, 1, 3, 0, 6};
        // by KIND: the number of its own body of each ACT, 0: none
        static final int[][] OWN = {{1, 10, 11, 2}, {20, 0, 0, 0}, {0, 30, 0, 0}, {0, 41, 40, 0}, {0, 0, 0, 50},
            {0, 0, 60, 61}, {70, 0, 0, 0}, {81, 80, 0, 0}};

        int run(int n, int own, int from, int act, int x) {
            int kind = from;
            while (OWN[kind][act] == 0) {
                kind = ABOVE[kind];
            }
            int up = ABOVE[kind];
            ran.add(OWN[kind][act]);
            switch (OWN[kind][act]) {
                case 1: return x + n;
                case 10: return run(n, own, own, 0, x) * 2;
                case 11: return x ^ n;
                case 2: return run(n, own, own, 1, x) - run(n, own, own, 2, 1);
                case 20: return run(n, own, up, 0, x) + 3;
                case 30: return -run(n, own, up, 1, x);
                case 40: return run(n, own, up, 2, x) * 3;
                case 41: return run(n, own, up, 1, x + 1);
                case 50: return run(n, own, up, 3, x) ^ 5;
                case 60: return run(n, own, up, 2, x) - run(n, own, own, 0, 2);
                case 61: return run(n, own, up, 3, x) + 1;
                case 70: return run(n, own, up, 0, x) * 2;
                case 80: return run(n, own, up, 1, x) + run(n, own, own, 2, 2);
                default: return run(n, own, up, 0, x) - 1;
            }
        }

        int act(int body, int act, int x) {
            ran = new ArrayList<>();
            want(body >= 0 && body < bodies.size() && act >= 0 && act <= 3, 0);
            return run(body, bodies.get(body), bodies.get(body), act, x);
        }

        int trace(int i) {
            want(i >= 0 && i < ran.size() && i < 24, -1);
            return ran.get(i);
        }

        int keep(int shelf, int body) {
            want(shelf >= 0 && shelf <= 5 && body >= -1 && body < bodies.size(), -1);
            shelves[shelf] = body < 0 ? null : Integer.valueOf(bodies.get(body));
            return 1;
        }

        int row(int shelf, int sort, int n) {
            want(shelf >= 0 && shelf <= 5 && sort >= 0 && sort <= 4 && n <= 60, -1);
            want(n >= 0, -14);
            shelves[shelf] = new Row(sort, n);
            return 1;
        }

        Row place(int shelf, int i) {
            want(shelf >= 0 && shelf <= 5, -1);
            want(shelves[shelf] != null, -11);
            want(shelves[shelf] instanceof Row, -12);
            Row r = (Row) shelves[shelf];
            want(i >= 0 && i < r.v.length, -13);
            return r;
        }

        int put(int shelf, int i, long v) {
            Row r = place(shelf, i);
            int bits = new int[] {8, 16, 32, 64, 0}[r.sort];
            r.v[i] = r.sort == 4 ? Math.min(1, Long.bitCount(v)) : v << 64 - bits >> 64 - bits;
            return 1;
        }

        long element(int shelf, int i) {
            return place(shelf, i).v[i];
        }

        int shift(int shelf, int i, int other, int j, int n) {
            want(shelf >= 0 && shelf <= 5 && other >= 0 && other <= 5, -1);
            want(shelves[shelf] != null && shelves[other] != null, -11);
            want(shelves[shelf] instanceof Row && shelves[other] instanceof Row, -12);
            Row a = (Row) shelves[shelf], b = (Row) shelves[other];
            want(a.sort == b.sort, -12);
            want(n >= 0 && i >= 0 && j >= 0 && (long) i + n <= a.v.length && (long) j + n <= b.v.length, -13);
            long[] all = a.v.clone();
            for (int k = 0; k < n; k++) {
                b.v[j + k] = all[i + k];
            }
            return n;
        }

        int taken(int shelf, int k) {
            want(shelf >= 0 && shelf <= 5 && k >= 0 && k <= 7, -1);
            want(shelves[shelf] != null, -11);
            want(shelves[shelf] instanceof Integer, -12);
            int kind = (Integer) shelves[shelf];
            for (int at = kind; at >= 0; at = ABOVE[at]) {
                if (at == k) {
                    return kind;
                }
            }
            throw new No(-12);
        }

        int count(int what) {
            want(what >= 0 && what <= 5, -1);
            return new int[] {ws.size(), ps.size(), tape.length(), done.size(), bodies.size(), ran.size()}[what];
        }
    }

    // ---- runs

    private final Random random;
    private final TelegramFeelings x = new TelegramFeelings();
    private final Model model = new Model();
    private final List<String> calls = new ArrayList<>();
    private int wrong;

    private ReferenceTest(long seed) {
        random = new Random(seed);
    }

    private static final TreeMap<String, Method[]> METHODS = new TreeMap<>();

    private static void findMethods() {
        for (Method m : TelegramFeelings.class.getDeclaredMethods()) {
            if (java.lang.reflect.Modifier.isPublic(m.getModifiers())) {
                for (Method o : Model.class.getDeclaredMethods()) {
                    if (o.getName().equals(m.getName()) && Arrays.equals(o.getParameterTypes(), m.getParameterTypes())) {
                        METHODS.put(m.getName(), new Method[] {m, o});
                    }
                }
            }
        }
        if (METHODS.size() != 40 - 1) {
            throw new IllegalStateException("the model has " + METHODS.keySet());
        }
    }

    private void call(String name, long... args) throws Exception {
        if (wrong > 0 || calls.size() >= 512) {
            return;
        }
        Method[] m = METHODS.get(name);
        Object[] a = new Object[args.length];
        for (int i = 0; i < a.length; i++) {
            a[i] = m[0].getParameterTypes()[i] == long.class ? (Object) args[i] : (Object) (int) args[i];
        }
        long got = ((Number) m[0].invoke(x, a)).longValue();
        long due;
        try {
            due = ((Number) m[1].invoke(model, a)).longValue();
        } catch (java.lang.reflect.InvocationTargetException e) {
            if (!(e.getCause() instanceof No)) {
                throw e;
            }
            due = m[0].getReturnType() == long.class ? Long.MIN_VALUE : ((No) e.getCause()).answer;
        }
        calls.add(name + Arrays.toString(a) + " " + got);
        if (got != due) {
            wrong++;
            System.out.println(String.join("\n", calls) + "\n  due is " + due);
        }
    }

    private int n(int below) {
        return random.nextInt(below);
    }

    /** Mostly within, now and then just outside or far off. */
    private int in(int least, int most) {
        int r = n(60);
        if (r == 0) {
            return least - 1;
        }
        if (r == 1) {
            return most + 1;
        }
        if (r == 2) {
            return new int[] {Integer.MIN_VALUE, Integer.MAX_VALUE, -1, 100, 1 << 20}[n(5)];
        }
        return most < least ? least : least + n(most - least + 1);
    }

    private int aWord() {
        return in(0, model.ws.size() - 1);
    }

    private int one() {
        return in(0, model.ps.size() - 1);
    }

    private int shelf() {
        return in(0, 3);
    }

    private static final String SIGNS = "0123456789cslpdw+-*/%<=>|&!()?;";

    private String expression(int depth) {
        int r = n(depth <= 0 ? 4 : 14);
        switch (r) {
            case 0:
            case 1:
                return String.valueOf(n(n(2) == 0 ? 10 : 10000));
            case 2:
            case 3:
                return String.valueOf("cslpdw".charAt(n(6)));
            case 4:
                return "!" + expression(0);
            case 5:
                return "-" + expression(0);
            case 6:
            case 7:
                return "(" + expression(depth - 1) + ")";
            default:
                return expression(depth - 1) + "+-*/%<=>|&".charAt(n(10)) + expression(depth - 1);
        }
    }

    private String lawText() {
        StringBuilder b = new StringBuilder();
        int lines = 1 + n(4);
        for (int i = 0; i < lines; i++) {
            b.append(i == 0 ? "" : ";").append(n(2) == 0 ? expression(1 + n(3)) + "?" : "").append(expression(1 + n(3)));
        }
        if (n(4) == 0 && b.length() > 0) {
            b.setCharAt(n(b.length()), SIGNS.charAt(n(SIGNS.length())));
        }
        if (n(8) == 0) {
            b.setLength(n(b.length() + 1));
        }
        return b.toString();
    }

    private void tellLaw(String text) throws Exception {
        for (int i = 0; i < text.length(); i++) {
            call("feed", text.charAt(i));
        }
        call("law");
    }

    private void setUp(int words) throws Exception {
        for (int i = 0; i < words; i++) {
            call("word", 1 + n(9), n(64) & n(64));
        }
        for (int i = 0; i < words; i++) {
            call("mend", i, 2, i == 0 ? 0 : n(6) == 0 ? 0 : 1 + n(2));
            call("mend", i, 3, 1 + n(9));
            if (n(2) == 0) {
                call("mend", i, 4, n(words));
            }
        }
        int people = n(7);
        for (int i = 0; i < people; i++) {
            call("person", n(3) == 0 ? n(1000) : n(40));
            call("mend", i, 6, n(64) | n(64));
        }
    }

    private void telegram(int shelf) throws Exception {
        int size = n(4) == 0 ? n(14) : 2 + n(5);
        call("row", shelf, 0, size);
        for (int i = 0; i < size; i++) {
            int w = n(Math.max(1, model.ws.size()));
            // lead with a who, go on with others
            for (int k = 0; k < 20 && !model.ws.isEmpty() && (model.ws.get(w).sort == 0) != (i == 0); k++) {
                w = n(model.ws.size());
            }
            call("put", shelf, i, n(40) == 0 ? 200 : w);
        }
    }

    private void anyCall() throws Exception {
        switch (n(44)) {
            case 0: call("word", in(1, 9), in(0, 63)); break;
            case 1: call("words", in(0, 5), in(0, 10), in(1, 12)); break;
            case 2: call("person", in(0, 999)); break;
            case 3: call("mend", aWord(), in(0, 4), n(10)); break;
            case 4: call("mend", one(), in(5, 6), n(64)); break;
            case 5: call("mend", n(20) == 0 ? 1 : 0, in(7, 9), n(14)); break;
            case 6: call("of", aWord(), in(0, 9)); break;
            case 7: call("of", one(), in(5, 6)); break;
            case 8: call("feed", n(8) == 0 ? in(0, 255) : SIGNS.charAt(n(SIGNS.length()))); break;
            case 9: if (n(4) == 0) { call("law"); } else { call("price", aWord(), in(0, 399)); } break;
            case 10: call("price", aWord(), 100 * in(0, 3) + in(0, 11)); break;
            case 11: case 12: call("wire", shelf(), in(0, 5)); break;
            case 13: case 14: call("say", n(3) == 0 ? in(0, 4095) : 64 * (n(64) & n(64) & n(64)) + (n(64) & n(64) & n(64)), in(-2, 5)); break;
            case 15: call("allFor", n(2) == 0 ? in(0, 999) : n(60), in(0, 1)); break;
            case 16: call("tooDear", one()); break;
            case 17: call("year", shelf(), one(), in(0, 1)); break;
            case 18: call("came", shelf()); break;
            case 19: call("cameAs", shelf(), in(0, 6)); break;
            case 20: call("meant", shelf(), in(0, 5), in(0, 1)); break;
            case 21: call("certain", shelf()); break;
            case 22: call("safe", shelf(), in(0, 1)); break;
            case 23: call("unsigned", shelf(), in(0, 1)); break;
            case 24: call("club", in(0, (1 << model.ps.size()) - 1), n(2) == 0 ? in(0, 999) : n(50), one()); break;
            case 25: call("lacks", in(0, 1)); break;
            case 26: call("drawn", random.nextInt(), 100 * in(1, 30) + in(1, 20), in(0, 1)); break;
            case 27: case 28: call("send", shelf(), 10 * one() + one()); break;
            case 29: call("night"); break;
            case 30: call("led", in(0, 4)); break;
            case 31: if (n(3) == 0) { call("image"); } else if (n(2) == 0) { call("back"); } break;
            case 32: call("undo"); break;
            case 33: call("redo"); break;
            case 34: call("body", in(0, 7)); break;
            case 35: call("act", in(0, model.bodies.size() - 1), in(0, 3), random.nextInt() >> n(32)); break;
            case 36: call("trace", in(0, 10)); break;
            case 37: if (n(3) == 0) { call("keep", in(0, 5), in(-1, model.bodies.size() - 1)); } else { call("taken", in(0, 5), in(0, 7)); } break;
            case 38: if (n(4) == 0) { call("row", in(0, 5), in(0, 4), in(0, 60)); } else { telegram(n(4)); } break;
            case 39: call("put", in(0, 5), in(0, 10), n(2) == 0 ? random.nextLong() >> n(64) : n(10)); break;
            case 40: call("element", in(0, 5), in(0, 10)); break;
            case 41: call("shift", in(0, 5), in(0, 5), in(0, 5), in(0, 5), in(0, 5)); break;
            case 42: if (n(3) == 0) { shorts(n(4)); } else { call("count", in(0, 5)); } break;
            default: call("count", in(0, 5));
        }
    }

    private void shorts(int shelf) throws Exception {
        int size = n(20);
        call("row", shelf, 1, size);
        for (int i = 0; i < size; i++) {
            call("put", shelf, i, n(60) == 0 ? 1000 : n(3) == 0 ? n(1000) : n(30));
        }
    }

    private void run(int most) throws Exception {
        if (n(5) > 0) {
            setUp(1 + n(most));
            if (n(3) > 0) {
                tellLaw(lawText());
            }
            telegram(0);
            telegram(1);
            telegram(2);
        }
        while (calls.size() < 512 && wrong == 0) {
            if (n(60) == 0) {
                tellLaw(lawText());
            }
            if (model.ws.size() <= most || n(44) > 0) {
                anyCall();
            }
        }
    }

    /** Texts of all kinds: where they fail, and what they give. */
    private static int texts() throws Exception {
        int wrong = 0;
        for (int seed = 0; seed < 3000 && wrong == 0; seed++) {
            ReferenceTest t = new ReferenceTest(seed);
            t.call("word", 1 + t.n(9), 1);
            t.call("word", 1 + t.n(9), 2);
            t.call("mend", 1, 2, t.n(3));
            t.call("mend", 0, 7, t.n(2));
            while (t.calls.size() < 500 && t.wrong == 0) {
                t.tellLaw(t.n(3) == 0 ? t.lawText() + SIGNS.charAt(t.n(SIGNS.length())) : t.lawText());
                t.call("price", t.n(2), 100 * t.n(4) + t.n(12));
                t.call("price", t.n(2), 100 * t.n(4) + t.n(12));
            }
            wrong += t.wrong;
        }
        return wrong;
    }

    public static void main(String[] args) throws Exception {
        findMethods();
        int wrong = texts();
        int runs = 0;
        for (int seed = 0; seed < 1500 && wrong == 0; seed++) {
            ReferenceTest t = new ReferenceTest(seed);
            t.run(seed % 60 == 0 ? 12 : seed % 4 == 0 ? 7 : 5);
            wrong += t.wrong;
            runs++;
        }
        System.out.println(runs + " runs, " + wrong + " wrong");
        if (wrong != 0) {
            System.exit(1);
        }
    }
}
