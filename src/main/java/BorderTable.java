/**
 * The longest table: a border that is a table, two lands at its sides. What each call answers is told by the
 * document's promises; no call throws, and none but feed(), law(), seating() and check() touches the tape.
 */
public final class BorderTable {
    public static final int NONE = -1;

    private static final int NOT_SO = -2;
    private static final int TOO_FEW = -3;
    private static final int NO_RUMOUR = -3;
    private static final int LAST_MINUTE = 20;
    private static final int NO_WORTH = -1000;
    private static final int NO_COUNT = -100000;
    private static final int BAD_SEATS = -999999;
    private static final int NO_SUM = -1000000;
    private static final int DO_SEAT = 16;
    private static final int ROUNDS_MOST = 50;
    private static final int HEIRS_MOST = 15;
    private static final int DRAWS_MOST = 60;

    private final Tape tape;
    private final Guests party;
    private final LawReader reader;
    private final Judge judge;
    private final News news;
    private final Smuggler smuggler;
    private final Planner planner;
    private final Knives cutlery;
    private final Plates plates;
    private int drawn;
    private int keptDrawn;
    private int keptGuests;

    public BorderTable() {
        Tape bytes = new Tape();
        Guests all = new Guests();
        Judge law = new Judge(all);
        tape = bytes;
        party = all;
        reader = new LawReader(bytes);
        judge = law;
        news = new News(all, law);
        smuggler = new Smuggler(all, law);
        planner = new Planner(all, law);
        cutlery = new Knives();
        plates = new Plates();
        drawn = 1;
        keptDrawn = 1;
        keptGuests = NONE;
    }

    public int guest(int land, int seat) {
        if (land < 0 || land > 1 || (seat != NONE && !Seats.isSeat(seat)) || party.isFull()) {
            return NONE;
        }
        if (seat != NONE && party.at(seat) != NONE) {
            return NOT_SO;
        }
        return party.add(land, seat);
    }

    public boolean liking(int a, int b, int n) {
        if (!areTwo(a, b) || n < -9 || n > 9) {
            return false;
        }
        party.like(a, b, n);
        judge.forget();
        return true;
    }

    public boolean sit(int g, int seat) {
        if (!party.lives(g)) {
            return false;
        }
        if (seat != NONE && (!Seats.isSeat(seat) || party.at(seat) != NONE)) {
            return false;
        }
        party.place(g, seat);
        return true;
    }

    public int feed(int a, int b, int c, int d, int e) {
        if (!tape.hasRoom()) {
            return NONE;
        }
        tape.add(a);
        tape.add(b);
        tape.add(c);
        tape.add(d);
        tape.add(e);
        return tape.length();
    }

    public int law(int n) {
        if (n < 1 || n > Law.BYTES_MOST || n > tape.length()) {
            return NONE;
        }
        int answer = reader.read(n);
        tape.clear();
        if (answer > 0) {
            judge.take(reader.handOut(judge.inForce()));
        }
        return answer;
    }

    public int two(int a, int b, int what) {
        if (what < 0 || what > 2 || !areTwo(a, b)) {
            return NONE;
        }
        int s = party.seatOf(a);
        int t = party.seatOf(b);
        if (s == NONE || t == NONE || (what != 1 && !Seats.areNext(s, t))) {
            return NOT_SO;
        }
        if (what == 1) {
            return judge.harm(a, b);
        }
        if (what == 2) {
            return judge.seen(a, b);
        }
        return judge.allows(a, b) ? 1 : 0;
    }

    public int worth(int g, int seat) {
        return party.knows(g) && Seats.isSeat(seat) ? judge.value(g, seat) : NO_WORTH;
    }

    public int rain(int minute, int from, int to) {
        return News.isMinute(minute) && Seats.isRow(from, to) ? news.addRain(minute, from, to) : NONE;
    }

    public int soonest(int a, int b, int minute) {
        if (!News.isStart(minute) || !party.sits(a) || !party.sits(b)) {
            return NONE;
        }
        news.spread(a, minute);
        int then = news.minuteOf(b);
        return then == NONE ? NOT_SO : then;
    }

    public int rumour(int a, int minute, int what) {
        boolean fits = what == NONE || what == LAST_MINUTE || party.knows(what);
        if (!fits || !News.isStart(minute) || !party.sits(a)) {
            return NO_RUMOUR;
        }
        news.spread(a, minute);
        if (what == NONE) {
            return news.howMany();
        }
        if (what == LAST_MINUTE) {
            return news.lastMinute();
        }
        return news.minuteOf(what) == NONE ? NOT_SO : news.teller(what);
    }

    public int speech(int place, int minute, int speed) {
        boolean fits = Seats.isPlace(place) && News.isMinute(minute) && speed >= 1 && speed <= 5;
        return fits ? news.addSpeech(place, minute, speed) : NONE;
    }

    public int heard(int seat, int minute) {
        return Seats.isSeat(seat) && News.isMinute(minute) ? news.speechesAt(seat, minute) : NONE;
    }

    public long smuggled(int a, int b, int what) {
        boolean asksGuest = what >= 10 && what <= 10 + Smuggler.PASSINGS_MOST;
        boolean fits = asksGuest || (what >= 0 && what <= 2);
        if (!fits || a == b || !party.sits(a) || !party.sits(b)) {
            return NONE;
        }
        if (!smuggler.find(a, b)) {
            return NOT_SO;
        }
        if (asksGuest) {
            return smuggler.guestAt(what - 10);
        }
        if (what == 2) {
            return smuggler.passings();
        }
        return what == 0 ? smuggler.above() : smuggler.below();
    }

    public int sum() {
        return planner.total(0);
    }

    public int seating(int guests, int n, int what) {
        if (!planner.canTell(guests, n) || n > tape.length()) {
            return NO_SUM;
        }
        if (what != NONE && what != DO_SEAT && !planner.isTold(guests, what)) {
            return NO_SUM;
        }
        boolean fits = planner.tell(guests, tape);
        tape.clear();
        if (!fits) {
            return BAD_SEATS;
        }
        int least = planner.seatBest();
        if (what == DO_SEAT) {
            planner.moveAll();
        }
        return what == NONE || what == DO_SEAT ? least : planner.seatFor(what);
    }

    public int exchange(int what) {
        if (what < 0 || what > 2) {
            return NO_SUM;
        }
        boolean found = planner.find();
        if (what == 2) {
            return planner.sumThen();
        }
        if (!found) {
            return NOT_SO;
        }
        return what == 0 ? planner.guestToMove() : planner.seatToTake();
    }

    public int exchanges() {
        int done = 0;
        while (done < ROUNDS_MOST && planner.find()) {
            party.swap(planner.guestToMove(), planner.seatToTake());
            done++;
        }
        return done;
    }

    public int strays() {
        int bits = 0;
        for (int g = 0; g < party.number(); g++) {
            if (party.isStray(g)) {
                bits |= 1 << g;
            }
        }
        return bits;
    }

    /** There is always room: a SIDE has more SEATS than there are GUESTS, so a stray can go home alone. */
    public int home() {
        int zeros = 0;
        int ones = 0;
        for (int g = 0; g < party.number(); g++) {
            if (party.isStray(g) && party.landOf(g) == 0) {
                zeros++;
            } else if (party.isStray(g)) {
                ones++;
            }
        }
        return Math.max(zeros, ones);
    }

    public boolean heir(int g, int h) {
        if (!party.knows(g) || g == h || (h != NONE && !party.knows(h))) {
            return false;
        }
        party.bequeath(g, h);
        return true;
    }

    public int dies(int g) {
        if (!party.lives(g)) {
            return NONE;
        }
        int seat = party.seatOf(g);
        party.bury(g);
        int h = party.heirOf(g);
        for (int n = 0; n < HEIRS_MOST && seat != NONE && h != NONE; n++) {
            if (party.lives(h) && !party.sits(h)) {
                party.place(h, seat);
                return h;
            }
            h = party.heirOf(h);
        }
        return NOT_SO;
    }

    public boolean knives(int seat, int n) {
        if (!Seats.isSeat(seat) || n < 0 || n > 9) {
            return false;
        }
        cutlery.lay(seat, n);
        return true;
    }

    public boolean put(int from, int to, int n) {
        return Seats.isSeat(from) && Seats.isSeat(to) && from != to && n >= 1 && cutlery.move(from, to, n);
    }

    public int counted(int side, int from, int to, int n) {
        boolean fits = (side == 0 || side == 1) && Seats.isRow(from, to) && n >= 0 && n <= 999;
        return fits ? cutlery.addCount(side, from, to, n) : NONE;
    }

    public int missing(int i) {
        return cutlery.hasCount(i) ? cutlery.moreThanSaid(i) : NO_COUNT;
    }

    public int wrong() {
        return cutlery.firstWrong();
    }

    public int gives(int g, int n) {
        if (!party.knows(g) || !Plates.isHandful(n)) {
            return NONE;
        }
        if (!party.sits(g) || !plates.hasRoom(g, n)) {
            return NOT_SO;
        }
        plates.serve(g, n);
        return plates.had(g);
    }

    public int passes(int a, int b, int n) {
        return areTwo(a, b) && Plates.isHandful(n) ? handOver(a, b, n) : NONE;
    }

    public int eats(int g, int n) {
        if (!party.knows(g) || !Plates.isHandful(n)) {
            return NONE;
        }
        if (plates.had(g) < n) {
            return TOO_FEW;
        }
        plates.eat(g, n);
        return plates.had(g);
    }

    public int fed(int a, int b) {
        return areTwo(a, b) ? plates.handed(a, b) : NONE;
    }

    public int led(int g, int what) {
        return party.knows(g) ? plates.told(g, what) : NONE;
    }

    public boolean seed(int x) {
        if (x < 0 || x > 65535) {
            return false;
        }
        drawn = x;
        return true;
    }

    public int draw(int n) {
        if (n < 1 || n > DRAWS_MOST) {
            return NONE;
        }
        int did = 0;
        for (int k = 0; k < n; k++) {
            drawn = (25173 * drawn + 13849) & 65535;
            int from = drawn % 16;
            int to = party.at(Seats.beside(party.seatOf(from), drawn / 16 % 3));
            if (to != NONE && handOver(from, to, 1) >= 0) {
                did++;
            }
        }
        return did;
    }

    public int keep() {
        keptGuests = party.number();
        keptDrawn = drawn;
        party.store();
        cutlery.store();
        plates.store();
        int sitting = 0;
        for (int g = 0; g < party.number(); g++) {
            if (party.sits(g)) {
                sitting++;
            }
        }
        return sitting;
    }

    public boolean undo() {
        if (keptGuests != party.number()) {
            return false;
        }
        drawn = keptDrawn;
        party.restore();
        cutlery.restore();
        plates.restore();
        return true;
    }

    public int check(int side, int n) {
        if (side < 0 || side > 1 || n < 0 || n > Seats.PLACES || 4 * n > tape.length()) {
            return NOT_SO;
        }
        int place = 0;
        while (place < n && tape.numberAt(4 * place) == party.at(2 * place + side)) {
            place++;
        }
        tape.clear();
        return place == n ? NONE : place;
    }

    public int count(int what) {
        if (what >= 40) {
            return Seats.isSeat(what - 40) ? cutlery.at(what - 40) : NONE;
        }
        if (what >= 20) {
            int g = what - 20;
            return party.knows(g) && !party.lives(g) ? NOT_SO : party.seatOf(g);
        }
        switch (what) {
            case 0:
                return party.number();
            case 1:
                return judge.inForce().number();
            case 2:
                return tape.length();
            case 3:
                return news.rains();
            case 4:
                return news.speeches();
            case 5:
                return cutlery.counts();
            case 6:
                return drawn;
            default:
                return NONE;
        }
    }

    private boolean areTwo(int a, int b) {
        return a != b && party.knows(a) && party.knows(b);
    }

    /** A passing of PLATES between two known GUESTS: what passes() answers behind NONE. */
    private int handOver(int a, int b, int n) {
        int s = party.seatOf(a);
        int t = party.seatOf(b);
        if (s == NONE || t == NONE || !Seats.areNext(s, t) || !judge.allows(a, b)) {
            return NOT_SO;
        }
        if (!plates.hasRoom(b, n) || plates.handed(a, b) + n > Plates.MOST) {
            return NOT_SO;
        }
        if (plates.had(a) < n) {
            return TOO_FEW;
        }
        plates.hand(a, b, n);
        return plates.had(a);
    }

    /** Where SEATS lie: the SIDE is a SEAT's lowest bit, the PLACE the rest. */
    static final class Seats {
        static final int MOST = 40;
        static final int PLACES = 20;

        static boolean isSeat(int seat) {
            return seat >= 0 && seat < MOST;
        }

        static boolean isPlace(int place) {
            return place >= 0 && place < PLACES;
        }

        static boolean isRow(int from, int to) {
            return isPlace(from) && isPlace(to) && from <= to;
        }

        static int apart(int s, int t) {
            return Math.abs((s >> 1) - (t >> 1));
        }

        static boolean areNext(int s, int t) {
            return apart(s, t) + ((s ^ t) & 1) == 1;
        }

        /** The SEAT before (way 0), behind (1) or across (2); NONE beyond the table's ends. */
        static int beside(int seat, int way) {
            if (!isSeat(seat)) {
                return NONE;
            }
            int to = way == 0 ? seat - 2 : way == 1 ? seat + 2 : seat ^ 1;
            return isSeat(to) ? to : NONE;
        }
    }

    /** The bytes that were fed and not used yet. */
    static final class Tape {
        private static final int MOST = 220;
        private static final int FED = 20;

        private final int[] bytes = new int[MOST];
        private int length;

        int length() {
            return length;
        }

        boolean hasRoom() {
            return length + FED <= MOST;
        }

        void add(int word) {
            for (int shift = 24; shift >= 0 && length < MOST; shift -= 8) {
                bytes[length] = (word >> shift) & 255;
                length++;
            }
        }

        int byteAt(int i) {
            return i >= 0 && i < length ? bytes[i] : NONE;
        }

        /** Four bytes from place i on, the highest first. */
        int numberAt(int i) {
            int number = 0;
            for (int k = 0; k < 4; k++) {
                number = (number << 8) | (byteAt(i + k) & 255);
            }
            return number;
        }

        void clear() {
            length = 0;
        }
    }

    /**
     * THE LAW as it was read: of each CLAUSE the steps of its E, then those of its C, for a small machine with a
     * stack. A step is an operator's own sign, NUMBER or LETTER.
     */
    static final class Law {
        static final int BYTES_MOST = 200;
        static final int CLAUSES_MOST = 14;
        static final int NUMBER = 1;
        static final int LETTER = 2;
        // six that are open in one another, each with a sum and a term that wait, need far fewer
        private static final int STACK_MOST = 40;

        private final int[] kinds = new int[CLAUSES_MOST];
        private final int[] starts = new int[CLAUSES_MOST];
        private final int[] middles = new int[CLAUSES_MOST];
        private final int[] ends = new int[CLAUSES_MOST];
        // no byte of the TEXT makes more than one step
        private final int[] steps = new int[BYTES_MOST];
        private final int[] parts = new int[BYTES_MOST];
        private final int[] stack = new int[STACK_MOST];
        private int clauses;
        private int length;

        int number() {
            return clauses;
        }

        boolean isFull() {
            return clauses >= CLAUSES_MOST;
        }

        void clear() {
            clauses = 0;
            length = 0;
        }

        void begin(int kind) {
            if (!isFull()) {
                kinds[clauses] = kind;
                starts[clauses] = length;
            }
        }

        void beginCondition() {
            if (!isFull()) {
                middles[clauses] = length;
            }
        }

        void end() {
            if (!isFull()) {
                ends[clauses] = length;
                clauses++;
            }
        }

        /** Answers the step's place. */
        int add(int step, int part) {
            if (length < BYTES_MOST) {
                steps[length] = step;
                parts[length] = part;
                length++;
            }
            return length - 1;
        }

        /** Lets the & or | at a place jump to what comes next. */
        void land(int jump) {
            if (jump >= 0 && jump < length) {
                parts[jump] = length;
            }
        }

        /** Whether some p holds, or there is none. */
        boolean permits(int[] letters) {
            boolean any = false;
            for (int k = 0; k < clauses && k < CLAUSES_MOST; k++) {
                if (kinds[k] == 'p') {
                    any = true;
                    if (reckon(middles[k], ends[k], letters) != 0) {
                        return true;
                    }
                }
            }
            return !any;
        }

        /** The E of the first CLAUSE of a kind whose C holds, within bounds. */
        int amount(int kind, int[] letters, int least, int most) {
            for (int k = 0; k < clauses && k < CLAUSES_MOST; k++) {
                if (kinds[k] == kind && reckon(middles[k], ends[k], letters) != 0) {
                    return Math.max(least, Math.min(most, reckon(starts[k], middles[k], letters)));
                }
            }
            return 0;
        }

        /** What the steps come to; 0 (a C does not hold, an E is 0) if something is divided by 0. */
        private int reckon(int from, int to, int[] letters) {
            int top = 0;
            int at = from;
            // jumps go forward alone: each step is done once at most
            for (int n = 0; n < BYTES_MOST && at >= 0 && at < to && at < BYTES_MOST; n++) {
                int step = steps[at];
                int part = parts[at];
                at++;
                if (top < taken(step) || top >= STACK_MOST) {
                    return 0;
                }
                if (step == NUMBER) {
                    stack[top++] = part;
                } else if (step == LETTER) {
                    stack[top++] = part >= 0 && part < letters.length ? letters[part] : 0;
                } else if (step == '!') {
                    stack[top - 1] = 1 - stack[top - 1];
                } else if (step == '&' || step == '|') {
                    if ((stack[top - 1] != 0) == (step == '|')) {
                        at = Math.max(at, part);
                    } else {
                        top--;
                    }
                } else {
                    top--;
                    if (stack[top] == 0 && (step == '/' || step == '%')) {
                        return 0;
                    }
                    stack[top - 1] = combined(step, stack[top - 1], stack[top]);
                }
            }
            return top == 1 ? stack[0] : 0;
        }

        private static int taken(int step) {
            if (step == NUMBER || step == LETTER) {
                return 0;
            }
            return step == '!' || step == '&' || step == '|' ? 1 : 2;
        }

        private static int combined(int sign, int x, int y) {
            switch (sign) {
                case '+':
                    return x + y;
                case '-':
                    return x - y;
                case '*':
                    return x * y;
                case '/':
                    return y == 0 ? 0 : x / y;
                case '%':
                    return y == 0 ? 0 : x % y;
                case '<':
                    return x < y ? 1 : 0;
                case '>':
                    return x > y ? 1 : 0;
                default:
                    return x == y ? 1 : 0;
            }
        }
    }

    /** Reads a TEXT off the tape into a draft, so that THE LAW before stays if there is a FAULT. */
    static final class LawReader {
        private static final int OPEN_MOST = 6;
        private static final int DIGITS_MOST = 5;

        private final Tape tape;
        private Law draft = new Law();
        private int at;
        private int end;
        private int fault;

        LawReader(Tape tape) {
            this.tape = tape;
        }

        /** Gives the draft away for a law that is used no more. */
        Law handOut(Law old) {
            Law read = draft;
            draft = old;
            return read;
        }

        /** How many CLAUSES the first n bytes have, or the FAULT. */
        int read(int n) {
            at = 0;
            end = n;
            fault = 0;
            draft.clear();
            boolean more = true;
            for (int k = 0; k <= Law.CLAUSES_MOST && more; k++) {
                more = readClause() && at < end && accept(';');
            }
            return fault != 0 ? fault : draft.number();
        }

        private boolean readClause() {
            int kind = peek();
            if (kind != 'p' && kind != 'w' && kind != 'h' && kind != 'v') {
                return fail(1);
            }
            if (draft.isFull()) {
                return fail(4);
            }
            at++;
            draft.begin(kind);
            if (kind != 'p' && !readSum(0)) {
                return false;
            }
            draft.beginCondition();
            if (!accept('(') || !readCondition(1) || !accept(')')) {
                return false;
            }
            draft.end();
            return true;
        }

        /** A C; open: how many of ( [ ! are open round it. */
        private boolean readCondition(int open) {
            boolean fine = readPart(open);
            for (int k = 0; k < Law.BYTES_MOST && fine && peek() == '|'; k++) {
                at++;
                int jump = draft.add('|', 0);
                fine = readPart(open);
                draft.land(jump);
            }
            return fine;
        }

        private boolean readPart(int open) {
            boolean fine = readPiece(open);
            for (int k = 0; k < Law.BYTES_MOST && fine && peek() == '&'; k++) {
                at++;
                int jump = draft.add('&', 0);
                fine = readPiece(open);
                draft.land(jump);
            }
            return fine;
        }

        private boolean readPiece(int open) {
            int sign = peek();
            if (sign == '!' || sign == '(') {
                return readInner(sign, open);
            }
            if (!readSum(open)) {
                return false;
            }
            int compare = peek();
            if (compare != '<' && compare != '>' && compare != '=') {
                return fail(1);
            }
            at++;
            boolean fine = readSum(open);
            draft.add(compare, 0);
            return fine;
        }

        /** What stands behind a ! or between ( and ). */
        private boolean readInner(int sign, int open) {
            if (open >= OPEN_MOST) {
                return fail(5);
            }
            at++;
            if (sign == '(') {
                return readCondition(open + 1) && accept(')');
            }
            boolean fine = readPiece(open + 1);
            draft.add('!', 0);
            return fine;
        }

        /** An E. */
        private boolean readSum(int open) {
            boolean fine = readTerm(open);
            for (int k = 0; k < Law.BYTES_MOST && fine && isPlus(peek()); k++) {
                int sign = peek();
                at++;
                fine = readTerm(open);
                draft.add(sign, 0);
            }
            return fine;
        }

        private boolean readTerm(int open) {
            boolean fine = readFactor(open);
            for (int k = 0; k < Law.BYTES_MOST && fine && isTimes(peek()); k++) {
                int sign = peek();
                at++;
                fine = readFactor(open);
                draft.add(sign, 0);
            }
            return fine;
        }

        private boolean readFactor(int open) {
            int sign = peek();
            if (isDigit(sign)) {
                return readNumber();
            }
            if (sign == '[') {
                if (open >= OPEN_MOST) {
                    return fail(5);
                }
                at++;
                return readSum(open + 1) && accept(']');
            }
            int letter = Judge.letterPlace(sign);
            if (letter == NONE) {
                return fail(1);
            }
            at++;
            draft.add(Law.LETTER, letter);
            return true;
        }

        private boolean readNumber() {
            int number = 0;
            for (int k = 0; k < DIGITS_MOST && isDigit(peek()); k++) {
                number = 10 * number + peek() - '0';
                at++;
            }
            if (isDigit(peek())) {
                return fail(2);
            }
            draft.add(Law.NUMBER, number);
            return true;
        }

        private static boolean isPlus(int sign) {
            return sign == '+' || sign == '-';
        }

        private static boolean isTimes(int sign) {
            return sign == '*' || sign == '/' || sign == '%';
        }

        private static boolean isDigit(int sign) {
            return sign >= '0' && sign <= '9';
        }

        /** The byte that is due, NONE at the end. */
        private int peek() {
            return at < end ? tape.byteAt(at) : NONE;
        }

        private boolean accept(int sign) {
            if (peek() != sign) {
                return fail(1);
            }
            at++;
            return true;
        }

        private boolean fail(int number) {
            fault = -1000 * number - at;
            return false;
        }
    }

    /** GUESTS, who sits where, who likes whom, who comes after whom. A dead one has no SEAT. */
    static final class Guests {
        static final int MOST = 16;

        private final int[] lands = new int[MOST];
        private final boolean[] alive = new boolean[MOST];
        private final int[] seats = new int[MOST];
        private final int[] heirs = new int[MOST];
        private final int[] likings = new int[MOST * MOST];
        private final int[] sitting = new int[Seats.MOST];
        private final boolean[] keptAlive = new boolean[MOST];
        private final int[] keptSeats = new int[MOST];
        private int number;

        Guests() {
            for (int g = 0; g < MOST; g++) {
                seats[g] = NONE;
                heirs[g] = NONE;
            }
            for (int seat = 0; seat < Seats.MOST; seat++) {
                sitting[seat] = NONE;
            }
        }

        int number() {
            return number;
        }

        boolean isFull() {
            return number >= MOST;
        }

        boolean knows(int g) {
            return g >= 0 && g < number && g < MOST;
        }

        boolean lives(int g) {
            return knows(g) && alive[g];
        }

        boolean sits(int g) {
            return seatOf(g) != NONE;
        }

        int seatOf(int g) {
            return knows(g) ? seats[g] : NONE;
        }

        int landOf(int g) {
            return knows(g) ? lands[g] : 0;
        }

        boolean isStray(int g) {
            return sits(g) && (seatOf(g) & 1) != landOf(g);
        }

        /** Who sits at a SEAT. */
        int at(int seat) {
            return Seats.isSeat(seat) ? sitting[seat] : NONE;
        }

        int add(int land, int seat) {
            if (isFull()) {
                return NONE;
            }
            int g = number;
            number++;
            lands[g] = land;
            alive[g] = true;
            place(g, seat);
            return g;
        }

        /** Lets a GUEST leave its SEAT for an empty one, or for none. */
        void place(int g, int seat) {
            if (!knows(g)) {
                return;
            }
            if (Seats.isSeat(seats[g])) {
                sitting[seats[g]] = NONE;
            }
            seats[g] = seat;
            if (Seats.isSeat(seat)) {
                sitting[seat] = g;
            }
        }

        /** A GUEST who sits goes to a SEAT; who sat there, if anybody, gets its own. */
        void swap(int g, int seat) {
            int from = seatOf(g);
            int other = at(seat);
            if (other != NONE) {
                place(other, NONE);
            }
            place(g, seat);
            if (other != NONE) {
                place(other, from);
            }
        }

        void bury(int g) {
            if (knows(g)) {
                place(g, NONE);
                alive[g] = false;
            }
        }

        void bequeath(int g, int heir) {
            if (knows(g)) {
                heirs[g] = heir;
            }
        }

        int heirOf(int g) {
            return knows(g) ? heirs[g] : NONE;
        }

        void like(int a, int b, int n) {
            if (knows(a) && knows(b)) {
                likings[a * MOST + b] = n;
            }
        }

        int likingOf(int a, int b) {
            return knows(a) && knows(b) ? likings[a * MOST + b] : 0;
        }

        void store() {
            System.arraycopy(seats, 0, keptSeats, 0, MOST);
            for (int g = 0; g < MOST; g++) {
                keptAlive[g] = alive[g];
            }
        }

        /** All get up first, so that nobody's SEAT is still another one's. */
        void restore() {
            for (int g = 0; g < number; g++) {
                place(g, NONE);
            }
            for (int g = 0; g < number && g < MOST; g++) {
                alive[g] = keptAlive[g];
                place(g, keptSeats[g]);
            }
        }
    }

    /**
     * Asks THE LAW about GUESTS at SEATS. HARMS and worths are asked again and again for one exchange after the
     * other, so they are noted down, with the age of THE LAW and the LIKINGS by which they were reckoned.
     */
    static final class Judge {
        private static final int LETTERS = 10;
        private static final int NEAR = 2;
        // the SEATS of five PLACES
        private static final int NEAR_SEATS = 2 * (2 * NEAR + 1);
        private static final int TWOS = Guests.MOST * (Guests.MOST - 1) / 2;

        private final Guests guests;
        private final int[] letters = new int[LETTERS];
        private final int[] harms = new int[TWOS * Seats.MOST * NEAR_SEATS];
        private final int[] worths = new int[Guests.MOST * Seats.MOST];
        private Law law = new Law();
        private int age = 1;

        Judge(Guests guests) {
            this.guests = guests;
        }

        /** Where a letter's number stands in a row of letters; NONE: that is none of them. */
        static int letterPlace(int sign) {
            switch (sign) {
                case 'f':
                    return 0;
                case 'g':
                    return 1;
                case 'a':
                    return 2;
                case 'b':
                    return 3;
                case 's':
                    return 4;
                case 't':
                    return 5;
                case 'l':
                    return 6;
                case 'm':
                    return 7;
                case 'd':
                    return 8;
                case 'o':
                    return 9;
                default:
                    return NONE;
            }
        }

        Law inForce() {
            return law;
        }

        void take(Law next) {
            law = next;
            forget();
        }

        /** What was noted down counts no more. */
        void forget() {
            age++;
        }

        /** Whether one who sits may pass to one NEXT to it. */
        boolean allows(int a, int b) {
            spell(a, guests.seatOf(a), b, guests.seatOf(b));
            return law.permits(letters);
        }

        int seen(int a, int b) {
            spell(a, guests.seatOf(a), b, guests.seatOf(b));
            return law.amount('v', letters, 0, 1000);
        }

        /** The HARM of two who sit, however far from one another. */
        int harm(int a, int b) {
            int f = Math.min(a, b);
            int g = Math.max(a, b);
            spell(f, guests.seatOf(f), g, guests.seatOf(g));
            return law.amount('h', letters, 0, 99);
        }

        /** What two would add to THE SUM at SEATS s and t. */
        int quarrel(int a, int s, int b, int t) {
            if (a == b || Seats.apart(s, t) > NEAR) {
                return 0;
            }
            int f = Math.min(a, b);
            int g = Math.max(a, b);
            int fSeat = f == a ? s : t;
            int gSeat = f == a ? t : s;
            int near = 2 * ((gSeat >> 1) - (fSeat >> 1) + NEAR) + (gSeat & 1);
            int two = f * (2 * Guests.MOST - 1 - f) / 2 + g - f - 1;
            int row = (two * Seats.MOST + fSeat) * NEAR_SEATS + near;
            if (row < 0 || row >= harms.length) {
                return 0;
            }
            if (harms[row] >> 8 != age) {
                spell(f, fSeat, g, gSeat);
                harms[row] = (age << 8) + law.amount('h', letters, 0, 99);
            }
            return harms[row] & 255;
        }

        int value(int g, int seat) {
            int row = g * Seats.MOST + seat;
            if (row < 0 || row >= worths.length) {
                return 0;
            }
            if (worths[row] >> 8 != age) {
                spellAlone(g, seat);
                worths[row] = (age << 8) + law.amount('w', letters, -99, 99) + 99;
            }
            return (worths[row] & 255) - 99;
        }

        private void spellAlone(int f, int s) {
            for (int k = 0; k < LETTERS; k++) {
                letters[k] = 0;
            }
            letters[0] = f;
            letters[2] = guests.landOf(f);
            letters[4] = s;
        }

        private void spell(int f, int s, int g, int t) {
            letters[0] = f;
            letters[1] = g;
            letters[2] = guests.landOf(f);
            letters[3] = guests.landOf(g);
            letters[4] = s;
            letters[5] = t;
            letters[6] = guests.likingOf(f, g);
            letters[7] = guests.likingOf(g, f);
            letters[8] = Seats.apart(s, t);
            letters[9] = (s ^ t) & 1;
        }
    }

    /** What goes by MINUTES: RAIN, what is PASSED while it comes, SPEECHES. */
    static final class News {
        private static final int TOLD_MOST = 10;

        private final Guests guests;
        private final Judge judge;
        private final int[] rainMinutes = new int[TOLD_MOST];
        private final int[] rainStarts = new int[TOLD_MOST];
        private final int[] rainEnds = new int[TOLD_MOST];
        private final int[] speechPlaces = new int[TOLD_MOST];
        private final int[] speechMinutes = new int[TOLD_MOST];
        private final int[] speechSpeeds = new int[TOLD_MOST];
        private final int[] minutes = new int[Guests.MOST];
        private final int[] tellers = new int[Guests.MOST];
        private int rains;
        private int speeches;

        News(Guests guests, Judge judge) {
            this.guests = guests;
            this.judge = judge;
        }

        static boolean isMinute(int minute) {
            return minute >= 0 && minute <= 999;
        }

        /** Whether SOONEST and RUMOURS may begin then. */
        static boolean isStart(int minute) {
            return minute >= 0 && minute <= 99;
        }

        int rains() {
            return rains;
        }

        int speeches() {
            return speeches;
        }

        int addRain(int minute, int from, int to) {
            if (rains >= TOLD_MOST) {
                return NONE;
            }
            rainMinutes[rains] = minute;
            rainStarts[rains] = from;
            rainEnds[rains] = to;
            rains++;
            return rains;
        }

        int addSpeech(int place, int minute, int speed) {
            if (speeches >= TOLD_MOST) {
                return NONE;
            }
            speechPlaces[speeches] = place;
            speechMinutes[speeches] = minute;
            speechSpeeds[speeches] = speed;
            speeches++;
            return speeches;
        }

        int speechesAt(int seat, int minute) {
            int bits = 0;
            for (int k = 0; k < speeches && k < TOLD_MOST; k++) {
                int since = minute - speechMinutes[k];
                int far = Math.abs((seat >> 1) - speechPlaces[k]);
                if (since >= 0 && far <= since * speechSpeeds[k]) {
                    bits |= 1 << k;
                }
            }
            return bits;
        }

        /**
         * Finds when each GUEST has what one has at a MINUTE. RAIN never ends, so waiting opens no way: only who
         * has just got it needs to be asked to whom it passes.
         */
        void spread(int from, int minute) {
            for (int g = 0; g < Guests.MOST; g++) {
                minutes[g] = g == from ? minute : NONE;
                tellers[g] = NONE;
            }
            boolean more = true;
            for (int n = 0; n < Guests.MOST && more; n++) {
                more = false;
                for (int g = 0; g < guests.number() && g < Guests.MOST; g++) {
                    if (minutes[g] == minute + n && passOn(g, minute + n)) {
                        more = true;
                    }
                }
            }
        }

        /** Whether somebody new gets it. */
        private boolean passOn(int g, int now) {
            boolean any = false;
            for (int way = 0; way < 3; way++) {
                int seat = Seats.beside(guests.seatOf(g), way);
                int to = guests.at(seat);
                if (to >= 0 && to < Guests.MOST && minutes[to] == NONE && isDry(guests.seatOf(g), now)
                        && isDry(seat, now) && judge.allows(g, to)) {
                    minutes[to] = now + 1;
                    tellers[to] = g;
                    any = true;
                }
            }
            return any;
        }

        private boolean isDry(int seat, int minute) {
            int place = seat >> 1;
            for (int k = 0; k < rains && k < TOLD_MOST; k++) {
                if (rainMinutes[k] <= minute && rainStarts[k] <= place && place <= rainEnds[k]) {
                    return false;
                }
            }
            return true;
        }

        /** When a GUEST has what was spread last; NONE: never. */
        int minuteOf(int g) {
            return g >= 0 && g < Guests.MOST ? minutes[g] : NONE;
        }

        int teller(int g) {
            return g >= 0 && g < Guests.MOST ? tellers[g] : NONE;
        }

        int howMany() {
            int many = 0;
            for (int g = 0; g < Guests.MOST; g++) {
                if (minutes[g] != NONE) {
                    many++;
                }
            }
            return many;
        }

        int lastMinute() {
            int last = NONE;
            for (int g = 0; g < Guests.MOST; g++) {
                last = Math.max(last, minutes[g]);
            }
            return last;
        }
    }

    /** Looks for the way under the cloth with the best ODDS. */
    static final class Smuggler {
        static final int PASSINGS_MOST = 6;
        // 1000 for each passing: ODDS of all ways are told as so many of these
        private static final long SURE = 1000000000000000000L;

        private final Guests guests;
        private final Judge judge;
        private final int[] row = new int[PASSINGS_MOST + 1];
        private final int[] bestRow = new int[PASSINGS_MOST + 1];
        private int bestPassings;
        private long bestOdds;
        private int target;

        Smuggler(Guests guests, Judge judge) {
            this.guests = guests;
            this.judge = judge;
        }

        /** Whether there is a way. */
        boolean find(int a, int b) {
            target = b;
            bestPassings = NONE;
            bestOdds = NONE;
            row[0] = a;
            goOn(0, SURE, 1 << a);
            return bestPassings != NONE;
        }

        /** Rows come in their order, so of like ones the first that was found is the least. */
        private void goOn(int passings, long odds, int met) {
            if (passings < 0 || passings > PASSINGS_MOST) {
                return;
            }
            if (row[passings] == target) {
                noteIfBetter(passings, odds);
            } else if (passings < PASSINGS_MOST) {
                tryNext(passings, odds, met);
            }
        }

        private void tryNext(int passings, long odds, int met) {
            if (passings < 0 || passings >= PASSINGS_MOST) {
                return;
            }
            int last = row[passings];
            for (int g = 0; g < guests.number(); g++) {
                if ((met >> g & 1) == 0 && guests.sits(g)
                        && Seats.areNext(guests.seatOf(last), guests.seatOf(g))) {
                    row[passings + 1] = g;
                    goOn(passings + 1, odds / 1000 * (1000 - judge.seen(last, g)), met | 1 << g);
                }
            }
        }

        private void noteIfBetter(int passings, long odds) {
            if (odds > bestOdds || (odds == bestOdds && passings < bestPassings)) {
                bestOdds = odds;
                bestPassings = passings;
                System.arraycopy(row, 0, bestRow, 0, PASSINGS_MOST + 1);
            }
        }

        int passings() {
            return bestPassings;
        }

        /** NONE beyond the row's end. */
        int guestAt(int i) {
            return i >= 0 && i <= bestPassings && i <= PASSINGS_MOST ? bestRow[i] : NONE;
        }

        long above() {
            return bestOdds / divisor();
        }

        long below() {
            return SURE / divisor();
        }

        /** The greatest common one of the ODDS and what is SURE; 1 at least. */
        private long divisor() {
            long x = SURE;
            long y = bestOdds;
            for (int n = 0; n < 200 && y > 0; n++) {
                long rest = x % y;
                x = y;
                y = rest;
            }
            return x < 1 ? 1 : x;
        }
    }

    /** THE SUM, and by whom it becomes least: SEATING and EXCHANGES. */
    static final class Planner {
        private static final int TOLD_MOST = 7;

        private final Guests guests;
        private final Judge judge;
        private int bestGuest = NONE;
        private int bestSeat = NONE;
        private int bestSum;
        private final int[] toldGuests = new int[TOLD_MOST];
        private final int[] toldSeats = new int[TOLD_MOST];
        // what each told GUEST costs at each told SEAT but for the told ones' HARMS
        private final int[] alone = new int[TOLD_MOST * TOLD_MOST];
        private final int[] chosen = new int[TOLD_MOST];
        private final int[] bestChosen = new int[TOLD_MOST];
        private int told;
        private int toldBits;
        private int leastCost;
        private boolean any;

        Planner(Guests guests, Judge judge) {
            this.guests = guests;
            this.judge = judge;
        }

        /** THE SUM, as if those whose bits are told were not there. */
        int total(int without) {
            int total = 0;
            for (int g = 0; g < guests.number(); g++) {
                int seat = guests.seatOf(g);
                if (seat == NONE || (without >> g & 1) != 0) {
                    continue;
                }
                total -= judge.value(g, seat);
                for (int h = g + 1; h < guests.number(); h++) {
                    int other = guests.seatOf(h);
                    if (other != NONE && (without >> h & 1) == 0) {
                        total += judge.quarrel(g, seat, h, other);
                    }
                }
            }
            return total;
        }

        /** What a GUEST at a SEAT adds to THE SUM, its HARMS with those whose bits are told left out. */
        private int cost(int g, int seat, int without) {
            int cost = -judge.value(g, seat);
            for (int h = 0; h < guests.number(); h++) {
                int other = guests.seatOf(h);
                if (other != NONE && h != g && (without >> h & 1) == 0) {
                    cost += judge.quarrel(g, seat, h, other);
                }
            }
            return cost;
        }

        /** Whether there is an EXCHANGE that makes THE SUM less; notes the best. */
        boolean find() {
            int now = total(0);
            bestSum = now;
            bestGuest = NONE;
            bestSeat = NONE;
            for (int g = 0; g < guests.number(); g++) {
                boolean sits = guests.sits(g);
                int stays = sits ? cost(g, guests.seatOf(g), 0) : 0;
                for (int seat = 0; seat < Seats.MOST && sits; seat++) {
                    int other = guests.at(seat);
                    int then = now;
                    if (other == NONE) {
                        then += cost(g, seat, 0) - stays;
                    } else if (other > g) {
                        // with a lower GUEST it was looked at when that one's turn was
                        then += change(g, seat, other);
                    }
                    if (then < bestSum) {
                        bestSum = then;
                        bestGuest = g;
                        bestSeat = seat;
                    }
                }
            }
            return bestGuest != NONE;
        }

        /** How much more THE SUM is after two GUESTS' EXCHANGE. */
        private int change(int g, int seat, int other) {
            int from = guests.seatOf(g);
            int both = 1 << g | 1 << other;
            int before = cost(g, from, both) + cost(other, seat, both) + judge.quarrel(g, from, other, seat);
            int after = cost(g, seat, both) + cost(other, from, both) + judge.quarrel(g, seat, other, from);
            return after - before;
        }

        int guestToMove() {
            return bestGuest;
        }

        int seatToTake() {
            return bestSeat;
        }

        int sumThen() {
            return bestSum;
        }

        boolean canTell(int bits, int n) {
            return n >= 1 && n <= TOLD_MOST && Integer.bitCount(bits) == n && bits >>> guests.number() == 0;
        }

        boolean isTold(int bits, int g) {
            return guests.knows(g) && (bits >> g & 1) != 0;
        }

        /** Takes down who shall sit where; false: they can't. */
        boolean tell(int bits, Tape tape) {
            told = 0;
            toldBits = bits;
            for (int g = 0; g < guests.number() && told < TOLD_MOST; g++) {
                if (isTold(bits, g)) {
                    if (!guests.lives(g)) {
                        return false;
                    }
                    toldGuests[told] = g;
                    told++;
                }
            }
            for (int k = 0; k < told; k++) {
                int seat = tape.byteAt(k);
                int other = guests.at(seat);
                if (!Seats.isSeat(seat) || (other != NONE && !isTold(bits, other)) || !insert(k, seat)) {
                    return false;
                }
            }
            return true;
        }

        /** Puts a SEAT among k that lie in order; false: it is there already. */
        private boolean insert(int k, int seat) {
            int at = k;
            while (at > 0 && at < TOLD_MOST && toldSeats[at - 1] >= seat) {
                if (toldSeats[at - 1] == seat) {
                    return false;
                }
                toldSeats[at] = toldSeats[at - 1];
                at--;
            }
            if (at >= 0 && at < TOLD_MOST) {
                toldSeats[at] = seat;
            }
            return true;
        }

        /** THE SUM with the told ones seated best. */
        int seatBest() {
            for (int k = 0; k < told && k < TOLD_MOST; k++) {
                for (int i = 0; i < told && i < TOLD_MOST; i++) {
                    alone[k * TOLD_MOST + i] = cost(toldGuests[k], toldSeats[i], toldBits);
                }
            }
            any = false;
            leastCost = 0;
            choose(0, 0, 0);
            return total(toldBits) + leastCost;
        }

        /** Rows come in their order, so of like ones the first that was found is the least. */
        private void choose(int k, int cost, int used) {
            if (k < 0 || k >= told || k >= TOLD_MOST) {
                noteIfLess(cost);
                return;
            }
            for (int i = 0; i < told && i < TOLD_MOST; i++) {
                if ((used >> i & 1) == 0) {
                    chosen[k] = toldSeats[i];
                    seatOthers(k, cost + alone[k * TOLD_MOST + i], used | 1 << i);
                }
            }
        }

        /** Adds the HARMS of told GUEST k with the told ones ahead of it, then seats those behind it. */
        private void seatOthers(int k, int cost, int used) {
            int all = cost;
            for (int j = 0; j < k && k < TOLD_MOST; j++) {
                all += judge.quarrel(toldGuests[j], chosen[j], toldGuests[k], chosen[k]);
            }
            choose(k + 1, all, used);
        }

        private void noteIfLess(int cost) {
            if (!any || cost < leastCost) {
                any = true;
                leastCost = cost;
                System.arraycopy(chosen, 0, bestChosen, 0, TOLD_MOST);
            }
        }

        /** The best SEAT of a told GUEST. */
        int seatFor(int g) {
            for (int k = 0; k < told && k < TOLD_MOST; k++) {
                if (toldGuests[k] == g) {
                    return bestChosen[k];
                }
            }
            return NONE;
        }

        /** All get up first, so that nobody's SEAT is still another one's. */
        void moveAll() {
            for (int k = 0; k < told && k < TOLD_MOST; k++) {
                guests.place(toldGuests[k], NONE);
            }
            for (int k = 0; k < told && k < TOLD_MOST; k++) {
                guests.place(toldGuests[k], bestChosen[k]);
            }
        }
    }

    /** KNIVES at SEATS, and what somebody COUNTED. */
    static final class Knives {
        private static final int MOST = 99;
        private static final int COUNTS_MOST = 20;
        // borders of PLACES: one ahead of each and one behind the last
        private static final int BORDERS = Seats.PLACES + 1;

        private final int[] knives = new int[Seats.MOST];
        private final int[] kept = new int[Seats.MOST];
        private final int[] sides = new int[COUNTS_MOST];
        private final int[] starts = new int[COUNTS_MOST];
        private final int[] ends = new int[COUNTS_MOST];
        private final int[] said = new int[COUNTS_MOST];
        private final int[] groups = new int[2 * BORDERS];
        private final int[] heights = new int[2 * BORDERS];
        private int counts;

        int at(int seat) {
            return Seats.isSeat(seat) ? knives[seat] : NONE;
        }

        void lay(int seat, int n) {
            if (Seats.isSeat(seat)) {
                knives[seat] = n;
            }
        }

        boolean move(int from, int to, int n) {
            if (!Seats.isSeat(from) || !Seats.isSeat(to) || n > knives[from] || knives[to] + n > MOST) {
                return false;
            }
            knives[from] -= n;
            knives[to] += n;
            return true;
        }

        int counts() {
            return counts;
        }

        boolean hasCount(int i) {
            return i >= 0 && i < counts && i < COUNTS_MOST;
        }

        int addCount(int side, int from, int to, int n) {
            if (counts >= COUNTS_MOST) {
                return NONE;
            }
            sides[counts] = side;
            starts[counts] = from;
            ends[counts] = to;
            said[counts] = n;
            counts++;
            return counts;
        }

        int moreThanSaid(int i) {
            return hasCount(i) ? between(sides[i], starts[i], ends[i]) - said[i] : 0;
        }

        private int between(int side, int from, int to) {
            int all = 0;
            for (int place = from; place <= to; place++) {
                all += Math.max(0, at(2 * place + side));
            }
            return all;
        }

        /**
         * A COUNT tells how much higher one border of PLACES is than another one, if a border's height is how many
         * KNIVES lie ahead of it: heights within a group are known against one another.
         */
        int firstWrong() {
            for (int k = 0; k < 2 * BORDERS; k++) {
                groups[k] = k;
                heights[k] = 0;
            }
            for (int side = 0; side < 2; side++) {
                relate(side * BORDERS, side * BORDERS + Seats.PLACES, between(side, 0, Seats.PLACES - 1));
            }
            for (int i = 0; i < counts && i < COUNTS_MOST; i++) {
                int first = sides[i] * BORDERS;
                if (!relate(first + starts[i], first + ends[i] + 1, said[i])) {
                    return i;
                }
            }
            return NONE;
        }

        /** Lets border y be so much higher than x; false: it is known to be otherwise. */
        private boolean relate(int x, int y, int higher) {
            if (x < 0 || y < 0 || x >= 2 * BORDERS || y >= 2 * BORDERS) {
                return true;
            }
            int lift = heights[x] + higher - heights[y];
            int joined = groups[y];
            if (joined == groups[x]) {
                return lift == 0;
            }
            for (int k = 0; k < 2 * BORDERS; k++) {
                if (groups[k] == joined) {
                    groups[k] = groups[x];
                    heights[k] += lift;
                }
            }
            return true;
        }

        void store() {
            System.arraycopy(knives, 0, kept, 0, Seats.MOST);
        }

        void restore() {
            System.arraycopy(kept, 0, knives, 0, Seats.MOST);
        }
    }

    /** PLATES: who has them, where they came from, who handed them to whom. */
    static final class Plates {
        static final int MOST = 9999;
        private static final int TWOS = Guests.MOST * Guests.MOST;

        private final int[] has = new int[Guests.MOST];
        private final int[] eaten = new int[Guests.MOST];
        private final int[] served = new int[Guests.MOST];
        private final int[] handed = new int[TWOS];
        private final int[] keptHas = new int[Guests.MOST];
        private final int[] keptEaten = new int[Guests.MOST];
        private final int[] keptServed = new int[Guests.MOST];
        private final int[] keptHanded = new int[TWOS];

        static boolean isHandful(int n) {
            return n >= 1 && n <= 99;
        }

        private static boolean isGuest(int g) {
            return g >= 0 && g < Guests.MOST;
        }

        int had(int g) {
            return isGuest(g) ? has[g] : 0;
        }

        boolean hasRoom(int g, int n) {
            return had(g) + n <= MOST;
        }

        int handed(int a, int b) {
            return isGuest(a) && isGuest(b) ? handed[a * Guests.MOST + b] : 0;
        }

        void serve(int g, int n) {
            if (isGuest(g)) {
                has[g] += n;
                served[g] += n;
            }
        }

        void eat(int g, int n) {
            if (isGuest(g)) {
                has[g] -= n;
                eaten[g] += n;
            }
        }

        void hand(int a, int b, int n) {
            if (isGuest(a) && isGuest(b)) {
                has[a] -= n;
                has[b] += n;
                handed[a * Guests.MOST + b] += n;
            }
        }

        /** What led() answers of a GUEST. */
        int told(int g, int what) {
            if (!isGuest(g) || what < 0 || what > 4) {
                return NONE;
            }
            if (what == 0) {
                return has[g];
            }
            if (what <= 2) {
                return what == 1 ? eaten[g] : served[g];
            }
            int all = 0;
            for (int h = 0; h < Guests.MOST; h++) {
                all += what == 3 ? handed(h, g) : handed(g, h);
            }
            return all;
        }

        void store() {
            System.arraycopy(has, 0, keptHas, 0, Guests.MOST);
            System.arraycopy(eaten, 0, keptEaten, 0, Guests.MOST);
            System.arraycopy(served, 0, keptServed, 0, Guests.MOST);
            System.arraycopy(handed, 0, keptHanded, 0, TWOS);
        }

        void restore() {
            System.arraycopy(keptHas, 0, has, 0, Guests.MOST);
            System.arraycopy(keptEaten, 0, eaten, 0, Guests.MOST);
            System.arraycopy(keptServed, 0, served, 0, Guests.MOST);
            System.arraycopy(keptHanded, 0, handed, 0, TWOS);
        }
    }
}
