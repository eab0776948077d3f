/** Many runs of calls by chance: each answer against the model's, and the whole state now and then. */
public final class RandomTests {
    private static final int RUNS = 500;
    private static final int CALLS = 240;

    private final Chance chance;
    private final int run;
    private final BorderTable table = new BorderTable();
    private final Model model = new Model();
    private final StringBuilder log = new StringBuilder();
    private int wrong;

    private RandomTests(int run) {
        this.run = run;
        chance = new Chance(run);
    }

    private void due(String call, long got, long want) {
        log.append(call).append(" = ").append(got).append('\n');
        if (got != want) {
            wrong++;
            System.out.println("run " + run + ": " + call + " answered " + got + ", due is " + want);
        }
    }

    private static long bit(boolean b) {
        return b ? 1 : 0;
    }

    /** Mostly what is there, now and then what is not. */
    private int someGuest() {
        int n = model.people.size();
        return chance.one(40) || n == 0 ? chance.from(-2, 17) : chance.below(n);
    }

    /** Half of the time one NEXT to a guest, if anybody is. */
    private int someOther(int g) {
        for (int k = 0; k < 12 && g >= 0 && g < model.people.size() && !chance.one(6); k++) {
            int h = chance.below(model.people.size());
            if (table.two(g, h, 0) >= 0) {
                return h;
            }
        }
        return someGuest();
    }

    /** Whether the last of k + 1 seats stands there already, or somebody sits there who is not told. */
    private boolean isOthers(int[] seats, int k, int bits) {
        for (int i = 0; i < k; i++) {
            if (seats[i] == seats[k]) {
                return true;
            }
        }
        for (int g = 0; g < model.people.size(); g++) {
            if (model.people.get(g).seat == seats[k] && (bits >> g & 1) == 0) {
                return true;
            }
        }
        return false;
    }

    private boolean isTaken(int seat) {
        for (Model.Person p : model.people) {
            if (p.seat == seat && seat >= 0) {
                return true;
            }
        }
        return false;
    }

    private int seatsMost;

    private int someSeat() {
        return chance.one(40) ? chance.from(-2, 41) : chance.below(seatsMost);
    }

    private int somePlace() {
        return chance.one(30) ? chance.from(-2, 21) : chance.below(20);
    }

    private void feed(int[] bytes) {
        for (int at = 0; at < bytes.length; at += 20) {
            int[] w = new int[5];
            for (int k = 0; k < 20; k++) {
                w[k / 4] = w[k / 4] << 8 | (at + k < bytes.length ? bytes[at + k] : 97);
            }
            due("feed", table.feed(w[0], w[1], w[2], w[3], w[4]), model.feed(w[0], w[1], w[2], w[3], w[4]));
        }
    }

    private void law() {
        String text = chance.one(4) ? chance.richLaw() : chance.law();
        int[] bytes = new int[text.length()];
        for (int k = 0; k < bytes.length; k++) {
            bytes[k] = text.charAt(k) & 255;
        }
        feed(bytes);
        int n = chance.one(20) ? chance.from(-1, 202) : text.length();
        due("law(" + n + ") " + text, table.law(n), model.law(n));
    }

    private void seating() {
        int bits = 0;
        int n = chance.from(1, chance.one(8) ? 6 : 4);
        for (int k = 0; k < n; k++) {
            bits |= 1 << (chance.one(60) ? chance.below(32) : chance.below(Math.max(1, model.people.size())));
        }
        n = chance.one(20) ? chance.from(-1, 8) : Integer.bitCount(bits);
        int[] bytes = new int[Math.max(0, Math.min(n, 20))];
        for (int k = 0; k < bytes.length; k++) {
            bytes[k] = someSeat() & 255;
            for (int i = 0; i < 20 && !chance.one(90) && isOthers(bytes, k, bits); i++) {
                bytes[k] = chance.below(40);
            }
        }
        if (n > 0 && !chance.one(20)) {
            feed(bytes);
        }
        int what = chance.one(3) ? NONE : chance.one(2) ? 16 : chance.from(-2, 17);
        for (int g = 0; g < 16 && chance.one(2); g++) {
            what = (bits >> g & 1) != 0 ? g : what;
        }
        due("seating(" + bits + ", " + n + ", " + what + ")", table.seating(bits, n, what),
                model.seating(bits, n, what));
    }

    private static final int NONE = -1;

    private void check() {
        int side = chance.one(20) ? chance.from(-1, 2) : chance.below(2);
        int n = chance.one(20) ? chance.from(-1, 21) : chance.below(21);
        int[] bytes = new int[80];
        for (int k = 0; k < 20; k++) {
            int g = NONE;
            for (int p = 0; p < model.people.size(); p++) {
                g = model.people.get(p).seat == 2 * k + side ? p : g;
            }
            int told = chance.one(30) ? chance.word() : g;
            for (int i = 0; i < 4; i++) {
                bytes[4 * k + i] = told >> 24 - 8 * i & 255;
            }
        }
        if (!chance.one(10)) {
            feed(bytes);
        }
        due("check(" + side + ", " + n + ")", table.check(side, n), model.check(side, n));
    }

    private void state() {
        for (int k = -2; k < 82; k++) {
            due("count(" + k + ")", table.count(k), model.count(k));
        }
        for (int g = -1; g < 17; g++) {
            for (int k = -1; k < 6; k++) {
                due("led(" + g + ", " + k + ")", table.led(g, k), model.led(g, k));
            }
            for (int h = -1; h < 17; h++) {
                due("fed(" + g + ", " + h + ")", table.fed(g, h), model.fed(g, h));
            }
        }
        due("strays", table.strays(), model.strays());
        due("sum", table.sum(), model.sum());
        due("wrong", table.wrong(), model.wrong());
    }

    private void guestsCall(int kind) {
        int a = someGuest();
        int b = someGuest();
        switch (kind) {
            case 0: {
                int land = chance.one(30) ? chance.from(-1, 2) : chance.below(2);
                int seat = chance.one(6) ? -1 : someSeat();
                for (int k = 0; k < 3 && isTaken(seat); k++) {
                    seat = someSeat();
                }
                due("guest(" + land + ", " + seat + ")", table.guest(land, seat), model.guest(land, seat));
                break;
            }
            case 1: {
                int n = chance.one(30) ? chance.from(-11, 11) : chance.from(-9, 9);
                due("liking(" + a + ", " + b + ", " + n + ")", bit(table.liking(a, b, n)), bit(model.liking(a, b, n)));
                break;
            }
            case 2: {
                int seat = chance.one(12) ? -1 : someSeat();
                for (int k = 0; k < 3 && isTaken(seat); k++) {
                    seat = someSeat();
                }
                due("sit(" + a + ", " + seat + ")", bit(table.sit(a, seat)), bit(model.sit(a, seat)));
                break;
            }
            case 3:
                due("heir(" + a + ", " + b + ")", bit(table.heir(a, b)), bit(model.heir(a, b)));
                break;
            case 4:
                if (chance.one(10)) {
                    due("dies(" + a + ")", table.dies(a), model.dies(a));
                }
                break;
            case 5:
                due("keep", table.keep(), model.keep());
                break;
            case 6:
                if (!chance.one(3)) {
                    break;
                }
                due("undo", bit(table.undo()), bit(model.undo()));
                break;
            default:
                state();
        }
    }

    private void lawCall(int kind) {
        int a = someGuest();
        int b = someOther(a);
        int minute = chance.one(30) ? chance.from(-1, 101) : chance.below(30);
        switch (kind) {
            case 0:
                law();
                break;
            case 1: {
                int what = chance.one(30) ? chance.from(-1, 3) : chance.below(3);
                due("two(" + a + ", " + b + ", " + what + ")", table.two(a, b, what), model.two(a, b, what));
                break;
            }
            case 2: {
                int seat = someSeat();
                due("worth(" + a + ", " + seat + ")", table.worth(a, seat), model.worth(a, seat));
                break;
            }
            case 3:
                b = chance.one(3) ? b : someGuest();
                due("soonest(" + a + ", " + b + ", " + minute + ")", table.soonest(a, b, minute),
                        model.soonest(a, b, minute));
                break;
            case 4: {
                int what = chance.one(4) ? chance.from(-2, 21) : chance.one(3) ? -1 : chance.one(3) ? 20 : b;
                due("rumour(" + a + ", " + minute + ", " + what + ")", table.rumour(a, minute, what),
                        model.rumour(a, minute, what));
                break;
            }
            case 5: {
                b = chance.one(3) ? b : someGuest();
                int what = chance.one(8) ? chance.from(-1, 17) : chance.one(2) ? chance.below(3) : chance.from(10, 16);
                due("smuggled(" + a + ", " + b + ", " + what + ")", table.smuggled(a, b, what),
                        model.smuggled(a, b, what));
                break;
            }
            default:
                for (int g = 0; g < model.people.size(); g++) {
                    for (int h = 0; h < model.people.size(); h++) {
                        for (int what = 0; what < 3; what++) {
                            due("two(" + g + ", " + h + ", " + what + ")", table.two(g, h, what),
                                    model.two(g, h, what));
                        }
                    }
                }
        }
    }

    private void skyCall(int kind) {
        int minute = chance.one(30) ? chance.from(-1, 1001) : chance.below(40);
        switch (kind) {
            case 0: {
                int from = somePlace();
                int to = chance.one(10) ? somePlace() : from + chance.below(2);
                if (chance.one(6)) {
                    due("rain(" + minute + ", " + from + ", " + to + ")", table.rain(minute, from, to),
                            model.rain(minute, from, to));
                }
                break;
            }
            case 1: {
                int place = somePlace();
                int speed = chance.one(10) ? chance.from(-1, 7) : chance.from(1, 5);
                due("speech(" + place + ", " + minute + ", " + speed + ")", table.speech(place, minute, speed),
                        model.speech(place, minute, speed));
                break;
            }
            default: {
                int seat = chance.from(-1, 40);
                due("heard(" + seat + ", " + minute + ")", table.heard(seat, minute), model.heard(seat, minute));
            }
        }
    }

    private void plansCall(int kind) {
        switch (kind) {
            case 0:
            case 1:
                seating();
                break;
            case 2: {
                int what = chance.one(20) ? chance.from(-2, 4) : chance.below(3);
                due("exchange(" + what + ")", table.exchange(what), model.exchange(what));
                break;
            }
            case 3:
                if (chance.one(2)) {
                    due("exchanges", table.exchanges(), model.exchanges());
                }
                break;
            case 4:
                if (Integer.bitCount(model.strays()) < 7) {
                    due("home", table.home(), model.home());
                }
                break;
            default:
                check();
        }
    }

    private void knivesCall(int kind) {
        int seat = chance.one(30) ? chance.from(-1, 40) : chance.below(12);
        switch (kind) {
            case 0: {
                int n = chance.one(20) ? chance.from(-1, 10) : chance.below(10);
                due("knives(" + seat + ", " + n + ")", bit(table.knives(seat, n)), bit(model.knives(seat, n)));
                break;
            }
            case 1: {
                int to = chance.one(3) ? chance.below(4) : chance.below(12);
                int n = chance.one(20) ? chance.from(-1, 99) : chance.from(1, 6);
                due("put(" + seat + ", " + to + ", " + n + ")", bit(table.put(seat, to, n)),
                        bit(model.put(seat, to, n)));
                break;
            }
            case 2: {
                int side = chance.one(30) ? chance.from(-1, 2) : chance.below(2);
                int from = chance.one(20) ? somePlace() : chance.below(4);
                int to = chance.one(20) ? somePlace() : chance.one(3) ? 19 : from + chance.below(4);
                int n = chance.one(30) ? chance.from(-1, 1001) : chance.below(4);
                for (int k = from; k <= to && side >= 0 && side < 2 && from >= 0 && to < 20 && !chance.one(14); k++) {
                    n = (k == from ? 0 : n) + model.knives[2 * k + side];
                }
                due("counted(" + side + ", " + from + ", " + to + ", " + n + ")", table.counted(side, from, to, n),
                        model.counted(side, from, to, n));
                break;
            }
            case 3: {
                int i = chance.from(-1, 21);
                due("missing(" + i + ")", table.missing(i), model.missing(i));
                break;
            }
            default:
                due("wrong", table.wrong(), model.wrong());
        }
    }

    private void platesCall(int kind) {
        int a = someGuest();
        int b = someOther(a);
        int n = chance.one(20) ? chance.from(-1, 101) : chance.one(3) ? chance.from(1, 99) : chance.from(1, 9);
        switch (kind) {
            case 0:
            case 1:
                n = chance.one(2) ? 99 : n;
                due("gives(" + a + ", " + n + ")", table.gives(a, n), model.gives(a, n));
                break;
            case 2:
            case 6:
            case 7:
                n = chance.one(2) ? n : chance.from(1, 4);
                due("passes(" + a + ", " + b + ", " + n + ")", table.passes(a, b, n), model.passes3(a, b, n));
                break;
            case 3:
                due("eats(" + a + ", " + n + ")", table.eats(a, n), model.eats(a, n));
                break;
            case 4: {
                int x = chance.one(10) ? chance.word() : chance.below(65536);
                due("seed(" + x + ")", bit(table.seed(x)), bit(model.seed(x)));
                break;
            }
            default: {
                int times = chance.one(10) ? chance.from(-1, 62) : chance.from(1, 60);
                due("draw(" + times + ")", table.draw(times), model.draw(times));
            }
        }
    }

    private boolean play() {
        // some runs have a short table, where all sit close
        seatsMost = chance.one(4) ? 40 : chance.from(8, 24);
        int guests = chance.one(10) ? chance.from(0, 3) : chance.from(4, 18);
        if (chance.one(2)) {
            law();
        }
        for (int g = 0; g < guests; g++) {
            guestsCall(0);
        }
        for (int k = 0; k < CALLS && wrong == 0; k++) {
            switch (chance.below(7)) {
                case 0:
                    guestsCall(chance.from(chance.one(8) ? 0 : 1, 7));
                    break;
                case 1:
                case 2:
                    lawCall(chance.below(7));
                    break;
                case 3:
                    skyCall(chance.below(3));
                    break;
                case 4:
                    plansCall(chance.below(6));
                    break;
                case 5:
                    knivesCall(chance.below(5));
                    break;
                default:
                    platesCall(chance.below(8));
            }
        }
        state();
        return wrong == 0;
    }

    public static void main(String[] args) {
        int bad = 0;
        int runs = args.length > 0 ? Integer.parseInt(args[0]) : RUNS;
        for (int run = 1; run <= runs && bad < 5; run++) {
            RandomTests t = new RandomTests(run);
            if (!t.play()) {
                bad++;
                if (args.length > 1) {
                    System.out.println(t.log);
                }
            }
        }
        System.out.println(bad == 0 ? runs + " runs by chance are as due" : bad + " runs by chance are not as due");
        if (bad != 0) {
            System.exit(1);
        }
    }
}
