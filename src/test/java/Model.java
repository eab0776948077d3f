import java.math.BigInteger;
import java.util.ArrayList;
import java.util.Arrays;
import java.util.List;

/**
 * The document said once more, as slowly and plainly as can be: nothing is noted down, every way, row and minute is
 * tried. The random tests ask it what is due.
 */
final class Model {
    static final int NONE = -1;

    static final class Refused extends RuntimeException {
        private static final long serialVersionUID = 1L;
    }

    static final class Fault extends RuntimeException {
        private static final long serialVersionUID = 1L;
        final int answer;

        Fault(int number, int place) {
            answer = -1000 * number - place;
        }
    }

    /** A node of a law: a sign and what stands below it. */
    static final class Node {
        final char sign;
        final Node left;
        final Node right;
        final int number;

        Node(char sign, Node left, Node right, int number) {
            this.sign = sign;
            this.left = left;
            this.right = right;
            this.number = number;
        }
    }

    static final class Clause {
        char kind;
        Node value;
        Node condition;
    }

    static final class Person {
        int land;
        boolean alive = true;
        int seat = NONE;
        int heir = NONE;
        int has;
        int eaten;
        int kitchen;
        int[] liking = new int[16];
        int[] fed = new int[16];
    }

    List<Person> people = new ArrayList<>();
    List<Integer> tape = new ArrayList<>();
    List<Clause> law = new ArrayList<>();
    List<int[]> rains = new ArrayList<>();
    List<int[]> speeches = new ArrayList<>();
    List<int[]> counts = new ArrayList<>();
    int[] knives = new int[40];
    int x = 1;
    // what was kept
    List<Person> keptPeople;
    int[] keptKnives;
    int keptX;

    // ---- reading a law

    private String text;
    private int at;

    private char sign() {
        return at < text.length() ? text.charAt(at) : (char) 1000;
    }

    private void need(char c) {
        if (sign() != c) {
            throw new Fault(1, at);
        }
        at++;
    }

    private void open(int depth) {
        if (depth > 6) {
            throw new Fault(5, at);
        }
        at++;
    }

    private List<Clause> readLaw(String t) {
        text = t;
        at = 0;
        List<Clause> clauses = new ArrayList<>();
        while (true) {
            Clause c = new Clause();
            c.kind = sign();
            if ("pwhv".indexOf(c.kind) < 0) {
                throw new Fault(1, at);
            }
            if (clauses.size() == 14) {
                throw new Fault(4, at);
            }
            at++;
            if (c.kind != 'p') {
                c.value = readSum(0);
            }
            need('(');
            c.condition = readChoice(1);
            need(')');
            clauses.add(c);
            if (at == text.length()) {
                return clauses;
            }
            need(';');
        }
    }

    private Node readChoice(int depth) {
        Node n = readPart(depth);
        while (sign() == '|') {
            at++;
            n = new Node('|', n, readPart(depth), 0);
        }
        return n;
    }

    private Node readPart(int depth) {
        Node n = readPiece(depth);
        while (sign() == '&') {
            at++;
            n = new Node('&', n, readPiece(depth), 0);
        }
        return n;
    }

    private Node readPiece(int depth) {
        if (sign() == '!') {
            open(depth + 1);
            return new Node('!', readPiece(depth + 1), null, 0);
        }
        if (sign() == '(') {
            open(depth + 1);
            Node n = readChoice(depth + 1);
            need(')');
            return n;
        }
        Node left = readSum(depth);
        char c = sign();
        if ("<>=".indexOf(c) < 0) {
            throw new Fault(1, at);
        }
        at++;
        return new Node(c, left, readSum(depth), 0);
    }

    private Node readSum(int depth) {
        Node n = readTerm(depth);
        while (sign() == '+' || sign() == '-') {
            char c = sign();
            at++;
            n = new Node(c, n, readTerm(depth), 0);
        }
        return n;
    }

    private Node readTerm(int depth) {
        Node n = readFactor(depth);
        while ("*/%".indexOf(sign()) >= 0) {
            char c = sign();
            at++;
            n = new Node(c, n, readFactor(depth), 0);
        }
        return n;
    }

    private Node readFactor(int depth) {
        char c = sign();
        if (c == '[') {
            open(depth + 1);
            Node n = readSum(depth + 1);
            need(']');
            return n;
        }
        if (c >= '0' && c <= '9') {
            int from = at;
            while (sign() >= '0' && sign() <= '9') {
                if (at - from == 5) {
                    throw new Fault(2, at);
                }
                at++;
            }
            return new Node('0', null, null, Integer.parseInt(text.substring(from, at)));
        }
        if ("fgabstlmdo".indexOf(c) < 0) {
            throw new Fault(1, at);
        }
        at++;
        return new Node(c, null, null, 0);
    }

    // ---- asking a law

    /** f, g, their seats; g -1: alone, as w asks. */
    private int letter(char c, int f, int s, int g, int t) {
        switch (c) {
            case 'f':
                return f;
            case 'a':
                return people.get(f).land;
            case 's':
                return s;
            default:
        }
        if (g < 0) {
            return 0;
        }
        switch (c) {
            case 'g':
                return g;
            case 'b':
                return people.get(g).land;
            case 't':
                return t;
            case 'l':
                return people.get(f).liking[g];
            case 'm':
                return people.get(g).liking[f];
            case 'd':
                return Math.abs(s / 2 - t / 2);
            default:
                return s % 2 != t % 2 ? 1 : 0;
        }
    }

    private int reckon(Node n, int f, int s, int g, int t) {
        if (n.sign == '0') {
            return n.number;
        }
        if (n.left == null) {
            return letter(n.sign, f, s, g, t);
        }
        int x = reckon(n.left, f, s, g, t);
        int y = reckon(n.right, f, s, g, t);
        if (y == 0 && (n.sign == '/' || n.sign == '%')) {
            throw new Refused();
        }
        switch (n.sign) {
            case '+':
                return x + y;
            case '-':
                return x - y;
            case '*':
                return x * y;
            case '/':
                return x / y;
            default:
                return x % y;
        }
    }

    private boolean isTrue(Node n, int f, int s, int g, int t) {
        switch (n.sign) {
            case '|':
                return isTrue(n.left, f, s, g, t) || isTrue(n.right, f, s, g, t);
            case '&':
                return isTrue(n.left, f, s, g, t) && isTrue(n.right, f, s, g, t);
            case '!':
                return !isTrue(n.left, f, s, g, t);
            case '<':
                return reckon(n.left, f, s, g, t) < reckon(n.right, f, s, g, t);
            case '>':
                return reckon(n.left, f, s, g, t) > reckon(n.right, f, s, g, t);
            default:
                return reckon(n.left, f, s, g, t) == reckon(n.right, f, s, g, t);
        }
    }

    private boolean holds(Clause c, int f, int s, int g, int t) {
        try {
            return isTrue(c.condition, f, s, g, t);
        } catch (Refused r) {
            return false;
        }
    }

    private int amount(char kind, int low, int high, int f, int s, int g, int t) {
        for (Clause c : law) {
            if (c.kind == kind && holds(c, f, s, g, t)) {
                try {
                    return Math.max(low, Math.min(high, reckon(c.value, f, s, g, t)));
                } catch (Refused r) {
                    return 0;
                }
            }
        }
        return 0;
    }

    private boolean may(int a, int b) {
        boolean any = false;
        for (Clause c : law) {
            if (c.kind == 'p') {
                any = true;
                if (holds(c, a, seat(a), b, seat(b))) {
                    return true;
                }
            }
        }
        return !any;
    }

    private int seen(int a, int b) {
        return amount('v', 0, 1000, a, seat(a), b, seat(b));
    }

    private int harm(int a, int b) {
        return a < b ? amount('h', 0, 99, a, seat(a), b, seat(b)) : harm(b, a);
    }

    private int value(int g, int s) {
        return amount('w', -99, 99, g, s, -1, -1);
    }

    // ---- small things

    private int seat(int g) {
        return people.get(g).seat;
    }

    private boolean is(int g) {
        return g >= 0 && g < people.size();
    }

    private boolean sits(int g) {
        return is(g) && seat(g) != NONE;
    }

    private int who(int seat) {
        for (int g = 0; g < people.size(); g++) {
            if (seat >= 0 && seat(g) == seat) {
                return g;
            }
        }
        return NONE;
    }

    private static boolean in(int n, int low, int high) {
        return low <= n && n <= high;
    }

    private static boolean next(int s, int t) {
        return s % 2 == t % 2 && Math.abs(s / 2 - t / 2) == 1 || s % 2 != t % 2 && s / 2 == t / 2;
    }

    // ---- the face

    int guest(int land, int seat) {
        if (!in(land, 0, 1) || !in(seat, -1, 39) || people.size() == 16) {
            return NONE;
        }
        if (who(seat) != NONE) {
            return -2;
        }
        Person p = new Person();
        p.land = land;
        p.seat = seat;
        people.add(p);
        return people.size() - 1;
    }

    boolean liking(int a, int b, int n) {
        if (!is(a) || !is(b) || a == b || !in(n, -9, 9)) {
            return false;
        }
        people.get(a).liking[b] = n;
        return true;
    }

    boolean sit(int g, int seat) {
        if (!is(g) || !people.get(g).alive || !in(seat, -1, 39) || who(seat) != NONE) {
            return false;
        }
        people.get(g).seat = seat;
        return true;
    }

    int feed(int a, int b, int c, int d, int e) {
        if (tape.size() > 200) {
            return NONE;
        }
        for (int word : new int[] {a, b, c, d, e}) {
            tape.add(word >>> 24);
            tape.add(word >>> 16 & 255);
            tape.add(word >>> 8 & 255);
            tape.add(word & 255);
        }
        return tape.size();
    }

    int law(int n) {
        if (!in(n, 1, 200) || n > tape.size()) {
            return NONE;
        }
        StringBuilder t = new StringBuilder();
        for (int k = 0; k < n; k++) {
            t.append((char) (int) tape.get(k));
        }
        tape.clear();
        try {
            law = readLaw(t.toString());
            return law.size();
        } catch (Fault f) {
            return f.answer;
        }
    }

    int two(int a, int b, int what) {
        if (!is(a) || !is(b) || a == b || !in(what, 0, 2)) {
            return NONE;
        }
        if (!sits(a) || !sits(b) || what != 1 && !next(seat(a), seat(b))) {
            return -2;
        }
        return what == 0 ? (may(a, b) ? 1 : 0) : what == 1 ? harm(a, b) : seen(a, b);
    }

    int worth(int g, int seat) {
        return is(g) && in(seat, 0, 39) ? value(g, seat) : -1000;
    }

    int rain(int minute, int from, int to) {
        if (!in(minute, 0, 999) || !in(from, 0, 19) || !in(to, from, 19) || rains.size() == 10) {
            return NONE;
        }
        rains.add(new int[] {minute, from, to});
        return rains.size();
    }

    private boolean wet(int g, int minute) {
        for (int[] r : rains) {
            if (r[0] <= minute && in(seat(g) / 2, r[1], r[2])) {
                return true;
            }
        }
        return false;
    }

    /** Minute by minute to the last one: when each gets it. */
    private int[] times(int a, int minute) {
        int[] when = new int[16];
        Arrays.fill(when, NONE);
        when[a] = minute;
        for (int m = minute; m < 130; m++) {
            for (int g = 0; g < people.size(); g++) {
                for (int h = 0; h < people.size(); h++) {
                    if (when[g] >= 0 && when[g] <= m && when[h] < 0 && passes(g, h, m)) {
                        when[h] = m + 1;
                    }
                }
            }
        }
        return when;
    }

    private boolean passes(int g, int h, int minute) {
        return sits(g) && sits(h) && next(seat(g), seat(h)) && !wet(g, minute) && !wet(h, minute) && may(g, h);
    }

    int soonest(int a, int b, int minute) {
        if (!sits(a) || !sits(b) || !in(minute, 0, 99)) {
            return NONE;
        }
        int t = times(a, minute)[b];
        return t < 0 ? -2 : t;
    }

    int rumour(int a, int minute, int what) {
        if (!sits(a) || !in(minute, 0, 99) || what != NONE && what != 20 && !is(what)) {
            return -3;
        }
        int[] when = times(a, minute);
        if (what == NONE || what == 20) {
            int many = 0;
            int last = 0;
            for (int t : when) {
                many += t >= 0 ? 1 : 0;
                last = Math.max(last, t);
            }
            return what == 20 ? last : many;
        }
        if (when[what] < 0) {
            return -2;
        }
        for (int g = 0; g < people.size() && what != a; g++) {
            if (when[g] >= 0 && when[g] < when[what] && passes(g, what, when[what] - 1)) {
                return g;
            }
        }
        return NONE;
    }

    int speech(int place, int minute, int speed) {
        if (!in(place, 0, 19) || !in(minute, 0, 999) || !in(speed, 1, 5) || speeches.size() == 10) {
            return NONE;
        }
        speeches.add(new int[] {place, minute, speed});
        return speeches.size();
    }

    int heard(int seat, int minute) {
        if (!in(seat, 0, 39) || !in(minute, 0, 999)) {
            return NONE;
        }
        int bits = 0;
        for (int k = 0; k < speeches.size(); k++) {
            int[] s = speeches.get(k);
            int from = s[0];
            int to = s[0];
            for (int m = s[1]; m < minute; m++) {
                from -= s[2];
                to += s[2];
            }
            if (s[1] <= minute && in(seat / 2, from, to)) {
                bits += 1 << k;
            }
        }
        return bits;
    }

    private List<List<Integer>> ways;

    private void findWays(List<Integer> way, int b) {
        int last = way.get(way.size() - 1);
        if (last == b) {
            ways.add(new ArrayList<>(way));
            return;
        }
        if (way.size() == 7) {
            return;
        }
        for (int g = people.size() - 1; g >= 0; g--) {
            if (sits(g) && !way.contains(g) && next(seat(last), seat(g))) {
                way.add(g);
                findWays(way, b);
                way.remove(way.size() - 1);
            }
        }
    }

    private BigInteger[] odds(List<Integer> way) {
        BigInteger above = BigInteger.ONE;
        BigInteger below = BigInteger.ONE;
        for (int k = 1; k < way.size(); k++) {
            above = above.multiply(BigInteger.valueOf(1000 - seen(way.get(k - 1), way.get(k))));
            below = below.multiply(BigInteger.valueOf(1000));
        }
        BigInteger d = above.gcd(below);
        return new BigInteger[] {above.divide(d), below.divide(d)};
    }

    private boolean better(List<Integer> p, List<Integer> q) {
        BigInteger[] x = odds(p);
        BigInteger[] y = odds(q);
        int c = x[0].multiply(y[1]).compareTo(y[0].multiply(x[1]));
        if (c != 0) {
            return c > 0;
        }
        if (p.size() != q.size()) {
            return p.size() < q.size();
        }
        for (int k = 0; k < p.size(); k++) {
            if (!p.get(k).equals(q.get(k))) {
                return p.get(k) < q.get(k);
            }
        }
        return false;
    }

    long smuggled(int a, int b, int what) {
        if (!sits(a) || !sits(b) || a == b || !in(what, 0, 2) && !in(what, 10, 16)) {
            return -1;
        }
        ways = new ArrayList<>();
        List<Integer> way = new ArrayList<>();
        way.add(a);
        findWays(way, b);
        if (ways.isEmpty()) {
            return -2;
        }
        List<Integer> best = ways.get(0);
        for (List<Integer> w : ways) {
            if (better(w, best)) {
                best = w;
            }
        }
        if (what < 2) {
            return odds(best)[what].longValueExact();
        }
        return what == 2 ? best.size() - 1 : what - 10 < best.size() ? best.get(what - 10) : -1;
    }

    int sum() {
        int sum = 0;
        for (int f = 0; f < people.size(); f++) {
            sum -= sits(f) ? value(f, seat(f)) : 0;
            for (int g = f + 1; g < people.size(); g++) {
                if (sits(f) && sits(g) && Math.abs(seat(f) / 2 - seat(g) / 2) <= 2) {
                    sum += harm(f, g);
                }
            }
        }
        return sum;
    }

    private int leastSum;
    private int[] leastRow;

    private void tryRows(List<Integer> who, List<Integer> seats, List<Integer> row) {
        if (row.size() == who.size()) {
            for (int k = 0; k < row.size(); k++) {
                people.get(who.get(k)).seat = row.get(k);
            }
            int s = sum();
            if (leastRow == null || s < leastSum) {
                leastSum = s;
                leastRow = row.stream().mapToInt(i -> i).toArray();
            }
            return;
        }
        for (int seat : seats) {
            if (!row.contains(seat)) {
                row.add(seat);
                tryRows(who, seats, row);
                row.remove(row.size() - 1);
            }
        }
    }

    int seating(int guests, int n, int what) {
        List<Integer> who = new ArrayList<>();
        for (int g = 0; g < 32; g++) {
            if ((guests >> g & 1) == 1) {
                who.add(g);
            }
        }
        boolean known = who.size() == n && in(n, 1, 7);
        for (int g : who) {
            known &= is(g);
        }
        if (!known || tape.size() < n || what != NONE && what != 16 && !who.contains(what)) {
            return -1000000;
        }
        List<Integer> seats = new ArrayList<>(tape.subList(0, n));
        tape.clear();
        for (int k = 0; k < n; k++) {
            int seat = seats.get(k);
            int other = seat < 40 ? who(seat) : NONE;
            if (seat >= 40 || seats.indexOf(seat) != k || other >= 0 && !who.contains(other)
                    || !people.get(who.get(k)).alive) {
                return -999999;
            }
        }
        int[] before = new int[n];
        for (int k = 0; k < n; k++) {
            before[k] = seat(who.get(k));
        }
        seats.sort(null);
        leastRow = null;
        tryRows(who, seats, new ArrayList<>());
        for (int k = 0; k < n; k++) {
            people.get(who.get(k)).seat = what == 16 ? leastRow[k] : before[k];
        }
        return what == NONE || what == 16 ? leastSum : leastRow[who.indexOf(what)];
    }

    private void doExchange(int g, int seat) {
        int other = who(seat);
        if (other >= 0) {
            people.get(other).seat = seat(g);
        }
        people.get(g).seat = seat;
    }

    /** The guest, the seat, the sum then; null: there is none. */
    private int[] best() {
        int[] best = null;
        int now = sum();
        for (int g = 0; g < people.size(); g++) {
            for (int seat = 0; seat < 40 && sits(g); seat++) {
                int from = seat(g);
                if (seat == from) {
                    continue;
                }
                doExchange(g, seat);
                int then = sum();
                if (then < now && (best == null || then < best[2])) {
                    best = new int[] {g, seat, then};
                }
                doExchange(g, from);
            }
        }
        return best;
    }

    int exchange(int what) {
        if (!in(what, 0, 2)) {
            return -1000000;
        }
        int[] b = best();
        return b != null ? b[what] : what == 2 ? sum() : -2;
    }

    int exchanges() {
        for (int done = 0; done < 50; done++) {
            int[] b = best();
            if (b == null) {
                return done;
            }
            doExchange(b[0], b[1]);
        }
        return 50;
    }

    int strays() {
        int bits = 0;
        for (int g = 0; g < people.size(); g++) {
            if (sits(g) && seat(g) % 2 != people.get(g).land) {
                bits += 1 << g;
            }
        }
        return bits;
    }

    /** Exchanges of strays alone are tried, one after the other: none other could help sooner. */
    int home() {
        int most = Integer.bitCount(strays());
        for (int n = 0; n <= most; n++) {
            if (goHome(n)) {
                return n;
            }
        }
        return -2;
    }

    private boolean goHome(int left) {
        if (strays() == 0) {
            return true;
        }
        if (left == 0) {
            return false;
        }
        int g = Integer.numberOfTrailingZeros(strays());
        int from = seat(g);
        boolean triedEmpty = false;
        for (int seat = people.get(g).land; seat < 40; seat += 2) {
            int other = who(seat);
            boolean useful = other >= 0 ? people.get(other).land != people.get(g).land : !triedEmpty;
            if (useful) {
                triedEmpty |= other < 0;
                doExchange(g, seat);
                boolean found = goHome(left - 1);
                doExchange(g, from);
                if (found) {
                    return true;
                }
            }
        }
        return false;
    }

    boolean heir(int g, int h) {
        if (!is(g) || g == h || h != NONE && !is(h)) {
            return false;
        }
        people.get(g).heir = h;
        return true;
    }

    int dies(int g) {
        if (!is(g) || !people.get(g).alive) {
            return NONE;
        }
        Person p = people.get(g);
        int seat = p.seat;
        p.seat = NONE;
        p.alive = false;
        int h = p.heir;
        for (int n = 1; n <= 15 && h != NONE && seat != NONE; n++) {
            Person q = people.get(h);
            if (q.alive && q.seat == NONE) {
                q.seat = seat;
                return h;
            }
            h = q.heir;
        }
        return -2;
    }

    boolean knives(int seat, int n) {
        if (!in(seat, 0, 39) || !in(n, 0, 9)) {
            return false;
        }
        knives[seat] = n;
        return true;
    }

    boolean put(int from, int to, int n) {
        if (!in(from, 0, 39) || !in(to, 0, 39) || from == to || n < 1 || n > knives[from] || knives[to] + n > 99) {
            return false;
        }
        knives[from] -= n;
        knives[to] += n;
        return true;
    }

    int counted(int side, int from, int to, int n) {
        if (!in(side, 0, 1) || !in(from, 0, 19) || !in(to, from, 19) || !in(n, 0, 999) || counts.size() == 20) {
            return NONE;
        }
        counts.add(new int[] {side, from, to, n});
        return counts.size();
    }

    private int lie(int side, int from, int to) {
        int all = 0;
        for (int place = from; place <= to; place++) {
            all += knives[2 * place + side];
        }
        return all;
    }

    int missing(int i) {
        if (!in(i, 0, counts.size() - 1)) {
            return -100000;
        }
        int[] c = counts.get(i);
        return lie(c[0], c[1], c[2]) - c[3];
    }

    /** By elimination over 40 unknown numbers: rows are kept with their lowest unknown once in them. */
    int wrong() {
        List<double[]> rows = new ArrayList<>();
        fits(rows, new int[] {0, 0, 19, lie(0, 0, 19)});
        fits(rows, new int[] {1, 0, 19, lie(1, 0, 19)});
        for (int i = 0; i < counts.size(); i++) {
            if (!fits(rows, counts.get(i))) {
                return i;
            }
        }
        return NONE;
    }

    private static boolean fits(List<double[]> rows, int[] count) {
        double[] row = new double[41];
        for (int place = count[1]; place <= count[2]; place++) {
            row[2 * place + count[0]] = 1;
        }
        row[40] = count[3];
        for (double[] r : rows) {
            int lead = lead(r);
            double by = row[lead] / r[lead];
            for (int k = 0; k <= 40; k++) {
                row[k] -= by * r[k];
            }
        }
        if (lead(row) == 40) {
            return row[40] == 0;
        }
        rows.add(row);
        return true;
    }

    private static int lead(double[] row) {
        int k = 0;
        while (k < 40 && row[k] == 0) {
            k++;
        }
        return k;
    }

    int gives(int g, int n) {
        if (!is(g) || !in(n, 1, 99)) {
            return NONE;
        }
        Person p = people.get(g);
        if (p.seat == NONE || p.has + n > 9999) {
            return -2;
        }
        p.has += n;
        p.kitchen += n;
        return p.has;
    }

    int passes3(int a, int b, int n) {
        if (!is(a) || !is(b) || a == b || !in(n, 1, 99)) {
            return NONE;
        }
        Person p = people.get(a);
        Person q = people.get(b);
        if (!sits(a) || !sits(b) || !next(p.seat, q.seat) || !may(a, b) || q.has + n > 9999 || p.fed[b] + n > 9999) {
            return -2;
        }
        if (p.has < n) {
            return -3;
        }
        p.has -= n;
        q.has += n;
        p.fed[b] += n;
        return p.has;
    }

    int eats(int g, int n) {
        if (!is(g) || !in(n, 1, 99)) {
            return NONE;
        }
        Person p = people.get(g);
        if (p.has < n) {
            return -3;
        }
        p.has -= n;
        p.eaten += n;
        return p.has;
    }

    int fed(int a, int b) {
        return is(a) && is(b) && a != b ? people.get(a).fed[b] : NONE;
    }

    int led(int g, int what) {
        if (!is(g) || !in(what, 0, 4)) {
            return NONE;
        }
        Person p = people.get(g);
        int got = 0;
        for (Person q : people) {
            got += q.fed[g];
        }
        return new int[] {p.has, p.eaten, p.kitchen, got, Arrays.stream(p.fed).sum()}[what];
    }

    boolean seed(int n) {
        if (!in(n, 0, 65535)) {
            return false;
        }
        x = n;
        return true;
    }

    int draw(int n) {
        if (!in(n, 1, 60)) {
            return NONE;
        }
        int did = 0;
        for (int k = 0; k < n; k++) {
            x = (int) ((25173L * x + 13849) % 65536);
            int a = x % 16;
            if (!sits(a)) {
                continue;
            }
            int place = seat(a) / 2;
            int side = seat(a) % 2;
            int way = x / 16 % 3;
            if (way == 2) {
                side = 1 - side;
            } else {
                place += way == 0 ? -1 : 1;
            }
            int b = in(place, 0, 19) ? who(2 * place + side) : NONE;
            if (b != NONE && passes3(a, b, 1) >= 0) {
                did++;
            }
        }
        return did;
    }

    int keep() {
        keptPeople = new ArrayList<>();
        int sitting = 0;
        for (Person p : people) {
            sitting += p.seat != NONE ? 1 : 0;
            Person q = new Person();
            takeOver(p, q);
            keptPeople.add(q);
        }
        keptKnives = knives.clone();
        keptX = x;
        return sitting;
    }

    private static void takeOver(Person from, Person to) {
        to.seat = from.seat;
        to.alive = from.alive;
        to.has = from.has;
        to.eaten = from.eaten;
        to.kitchen = from.kitchen;
        to.fed = from.fed.clone();
    }

    boolean undo() {
        if (keptPeople == null || keptPeople.size() != people.size()) {
            return false;
        }
        for (int g = 0; g < people.size(); g++) {
            takeOver(keptPeople.get(g), people.get(g));
        }
        knives = keptKnives.clone();
        x = keptX;
        return true;
    }

    int check(int side, int n) {
        if (!in(side, 0, 1) || !in(n, 0, 20) || tape.size() < 4 * n) {
            return -2;
        }
        List<Integer> t = new ArrayList<>(tape);
        tape.clear();
        for (int k = 0; k < n; k++) {
            int number = t.get(4 * k) << 24 | t.get(4 * k + 1) << 16 | t.get(4 * k + 2) << 8 | t.get(4 * k + 3);
            if (number != who(2 * k + side)) {
                return k;
            }
        }
        return NONE;
    }

    int count(int what) {
        if (in(what, 0, 6)) {
            return new int[] {people.size(), law.size(), tape.size(), rains.size(), speeches.size(), counts.size(),
                x}[what];
        }
        if (in(what, 20, 35) && is(what - 20)) {
            Person p = people.get(what - 20);
            return p.alive ? p.seat : -2;
        }
        return in(what, 40, 79) ? knives[what - 40] : NONE;
    }
}
