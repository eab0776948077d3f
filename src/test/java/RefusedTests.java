/**
 * "A call that is refused changes nothing but the tape, where it is told", nor does a call that asks: two tables are
 * set alike, one gets the call, then both are asked all that can be asked.
 */
public final class RefusedTests extends Asking {
    interface Call {
        long on(BorderTable t);
    }

    private static final String TEXT = "w[f*7+s]%23-9(f<6);h[f*5+g*3+s+t]%31(d<3);v[f+g]*40(1=1)";

    private static Call setting;
    private static String situation;

    /** Guests who sit, one who is up, two dead ones; something of all that can be told, a night kept, tape ahead. */
    private static BorderTable set() {
        BorderTable t = new BorderTable();
        int[] seats = {0, 2, 4, 1, 3, NONE, 38, 6, 5};
        for (int g = 0; g < 9; g++) {
            t.guest(g % 3 == 0 ? 1 : 0, seats[g]);
        }
        law(t, "p(!f=1|g<3);w[s*f]%7-3(1=1);h[f+g*3+s]%9+l(d<3);v[f*7+t]%90(1=1)");
        for (int g = 0; g < 9; g++) {
            t.liking(g, (g + 1) % 9, 4 - g);
            t.liking((g + 1) % 9, g, g - 5);
            t.heir(g, g == 4 ? NONE : (g + 5) % 9);
            t.gives(g, 20 + g);
        }
        t.rain(5, 2, 2);
        t.rain(50, 0, 0);
        t.speech(3, 4, 2);
        t.speech(19, 0, 5);
        for (int s = 0; s < 40; s += 3) {
            t.knives(s, s % 10);
        }
        t.counted(0, 0, 9, 12);
        t.counted(1, 3, 19, 0);
        t.counted(0, 10, 19, 5);
        t.passes(0, 1, 7);
        t.passes(2, 1, 3);
        t.eats(1, 4);
        t.seed(777);
        t.dies(4);
        t.keep();
        t.sit(3, 39);
        t.sit(8, 3);
        t.dies(6);
        t.gives(0, 30);
        t.passes(0, 1, 2);
        t.eats(0, 3);
        t.put(3, 39, 2);
        t.draw(5);
        feed(t, TEXT.chars().toArray());
        return t;
    }

    private static void asked(BorderTable t, StringBuilder s) {
        for (int k = -1; k <= 80; k++) {
            s.append(t.count(k)).append(' ');
        }
        for (int g = 0; g < t.count(0); g++) {
            for (int h = 0; h < t.count(0); h++) {
                for (int what = 0; what < 3; what++) {
                    s.append(t.two(g, h, what)).append(' ').append(t.smuggled(g, h, what)).append(' ');
                }
                s.append(t.soonest(g, h, 0)).append(' ').append(t.soonest(g, h, 49)).append(' ');
                s.append(t.rumour(g, 3, h)).append(' ').append(t.fed(g, h)).append(' ');
            }
            for (int seat = 0; seat < 40; seat += 3) {
                s.append(t.worth(g, seat)).append(' ');
            }
            for (int what = 0; what < 5; what++) {
                s.append(t.led(g, what)).append(' ');
            }
        }
        for (int seat = 0; seat < 40; seat++) {
            s.append(t.heard(seat, 2)).append(' ').append(t.heard(seat, 8)).append(' ');
        }
        for (int what = 0; what < 3; what++) {
            s.append(t.exchange(what)).append(' ');
        }
        for (int i = 0; i < t.count(5); i++) {
            s.append(t.missing(i)).append(' ');
        }
        s.append(t.sum()).append(' ').append(t.strays()).append(' ').append(t.home()).append(' ').append(t.wrong());
    }

    /** All that can be asked, then what only more calls can show: the tape's bytes, what was kept, the heirs. */
    private static String whole(BorderTable t) {
        StringBuilder s = new StringBuilder();
        asked(t, s);
        s.append(" law ").append(t.law(TEXT.length())).append(' ');
        asked(t, s);
        s.append(" undo ").append(t.undo()).append(' ');
        asked(t, s);
        for (int g = 0; g < t.count(0); g++) {
            s.append(" dies ").append(t.dies(g)).append(' ').append(t.undo());
        }
        for (int g = 0; g < t.count(0); g++) {
            s.append(" dies ").append(t.dies(g));
        }
        return s.toString();
    }

    private static BorderTable again() {
        BorderTable t = set();
        setting.on(t);
        return t;
    }

    /** The call answers so and changes nothing. */
    private static void idle(String what, long want, Call call) {
        BorderTable t = again();
        due(situation + what, call.on(t), want);
        due(situation + what + " changes nothing", whole(t).equals(whole(again())), true);
    }

    /** The call answers so and empties the tape. */
    private static void empties(String what, long want, Call call) {
        BorderTable t = again();
        BorderTable like = again();
        like.check(0, 0);
        due(situation + what, call.on(t), want);
        due(situation + what + " empties the tape", t.count(2), 0);
        due(situation + what + " changes nothing else", whole(t).equals(whole(like)), true);
    }

    private static long bit(boolean b) {
        return b ? 1 : 0;
    }

    private static void in(String name, Call call) {
        situation = name;
        setting = call;
    }

    private static void guests() {
        in("", t -> 0);
        idle("guest, taken", -2, t -> t.guest(0, 0));
        idle("guest, no such land", NONE, t -> t.guest(2, 20));
        idle("guest, no such seat", NONE, t -> t.guest(0, 40));
        idle("liking, itself", 0, t -> bit(t.liking(0, 0, 3)));
        idle("liking, 10", 0, t -> bit(t.liking(0, 1, 10)));
        idle("liking, no such guest", 0, t -> bit(t.liking(0, 9, 1)));
        idle("sit, taken", 0, t -> bit(t.sit(0, 2)));
        idle("sit, its own", 0, t -> bit(t.sit(0, 0)));
        idle("sit, dead", 0, t -> bit(t.sit(4, 20)));
        idle("sit, no such seat", 0, t -> bit(t.sit(0, 40)));
        idle("sit, gets up again", 1, t -> bit(t.sit(5, NONE)));
        idle("heir, itself", 0, t -> bit(t.heir(0, 0)));
        idle("heir, no such", 0, t -> bit(t.heir(0, 9)));
        idle("heir, the same", 1, t -> bit(t.heir(0, 5)));
        idle("dies, dead", NONE, t -> t.dies(4));
        idle("dies, no such", NONE, t -> t.dies(9));
        in("sixteen, ", t -> fill(t));
        idle("a 17th", NONE, t -> t.guest(0, 39));
        idle("a 17th at none", NONE, t -> t.guest(0, NONE));
    }

    private static long fill(BorderTable t) {
        for (int seat = 20; t.count(0) < 16; seat++) {
            t.guest(0, seat);
        }
        return t.keep();
    }

    private static void tapes() {
        in("", t -> 0);
        idle("law, 0", NONE, t -> t.law(0));
        idle("law, 201", NONE, t -> t.law(201));
        idle("law, one too many", NONE, t -> t.law(t.count(2) + 1));
        empties("law, a fault", -1006, t -> t.law(6));
        idle("check, side 2", -2, t -> t.check(2, 1));
        idle("check, -1", -2, t -> t.check(0, -1));
        idle("check, 16 of 15", -2, t -> t.check(0, 16));
        idle("check, 21", -2, t -> t.check(0, 21));
        empties("check, nothing", NONE, t -> t.check(1, 0));
        empties("check, not so", 0, t -> t.check(1, 9));
        idle("seating, no n", -1000000, t -> t.seating(0, 0, NONE));
        idle("seating, not n", -1000000, t -> t.seating(3, 1, 16));
        idle("seating, no such guest", -1000000, t -> t.seating(512, 1, 16));
        idle("seating, none of them", -1000000, t -> t.seating(3, 2, 2));
        idle("seating, no such what", -1000000, t -> t.seating(3, 2, 17));
        empties("seating, no such seats", -999999, t -> t.seating(3, 2, 16));
        in("seats ahead, ", t -> t.check(0, 0) + t.feed(0x14080A00, 0, 0, 0, 0));
        empties("seating, one dead", -999999, t -> t.seating(17, 2, 16));
        in("others' seats ahead, ", t -> t.check(0, 0) + t.feed(0x08000404, 0, 0, 0, 0));
        empties("seating, somebody else's", -999999, t -> t.seating(6, 2, 16));
        empties("seating, a seat twice", -999999, t -> t.seating(1 | 4 | 8 | 128, 4, 16));
        in("seats ahead, ", t -> t.check(0, 0) + t.feed(0x14080A00, 0, 0, 0, 0));
        empties("seating, asks for the sum", 1, t -> t.seating(3, 2, NONE) > -1000 ? 1 : 0);
        empties("seating, asks for a seat", 1, t -> t.seating(3, 2, 0) >= 0 ? 1 : 0);
        in("an empty tape, ", t -> t.check(0, 0));
        idle("law, 1 of 0", NONE, t -> t.law(1));
        idle("check, 1 of 0", -2, t -> t.check(0, 1));
        idle("seating, 1 of 0", -1000000, t -> t.seating(1, 1, NONE));
        idle("check, 0 of 0", NONE, t -> t.check(0, 0));
        in("a full tape, ", t -> fillTape(t));
        idle("feed", NONE, t -> t.feed(0, 0, 0, 0, 0));
        idle("law, 220 of 220", NONE, t -> t.law(220));
        idle("check, 21 of 55", -2, t -> t.check(0, 21));
    }

    private static long fillTape(BorderTable t) {
        while (t.count(2) < 220) {
            t.feed(1, 2, 3, 4, 5);
        }
        return 0;
    }

    private static void told() {
        in("", t -> 0);
        idle("rain, no such places", NONE, t -> t.rain(0, 1, 0));
        idle("rain, 1000", NONE, t -> t.rain(1000, 0, 0));
        idle("speech, speed 6", NONE, t -> t.speech(0, 0, 6));
        idle("speech, place 20", NONE, t -> t.speech(20, 0, 1));
        idle("counted, 1000", NONE, t -> t.counted(0, 0, 0, 1000));
        idle("counted, side 2", NONE, t -> t.counted(2, 0, 0, 0));
        idle("knives, 10", 0, t -> bit(t.knives(0, 10)));
        idle("put, one twice", 0, t -> bit(t.put(6, 6, 1)));
        idle("put, none", 0, t -> bit(t.put(6, 7, 0)));
        idle("put, too many", 0, t -> bit(t.put(6, 7, 7)));
        idle("seed, 65536", 0, t -> bit(t.seed(65536)));
        idle("seed, -1", 0, t -> bit(t.seed(-1)));
        idle("draw, 0", NONE, t -> t.draw(0));
        idle("draw, 61", NONE, t -> t.draw(61));
        in("all told, ", t -> tellAll(t));
        idle("an eleventh rain", NONE, t -> t.rain(0, 0, 19));
        idle("an eleventh speech", NONE, t -> t.speech(0, 0, 5));
        idle("a 21st count", NONE, t -> t.counted(0, 0, 19, 0));
        idle("a hundredth knife", 0, t -> bit(t.put(9, 20, 1)));
        in("a guest since, ", t -> t.guest(0, 20));
        idle("undo", 0, t -> bit(t.undo()));
        in("", t -> 0);
        BorderTable none = at(0);
        due("undo, none kept", none.undo(), false);
        due("undo, none kept, changes nothing", none.count(20), 0);
    }

    private static long tellAll(BorderTable t) {
        for (int k = 0; k < 20; k++) {
            t.rain(60 + k, k, k);
            t.speech(k, k, 1);
            t.counted(k % 2, k, k, k);
        }
        t.knives(20, 0);
        for (int k = 0; k < 11; k++) {
            t.knives(9, 9);
            t.put(9, 20, 9);
        }
        t.knives(9, 9);
        return t.count(60);
    }

    private static void plates() {
        in("", t -> 0);
        idle("gives, up", -2, t -> t.gives(5, 1));
        idle("gives, dead", -2, t -> t.gives(4, 1));
        idle("gives, 100", NONE, t -> t.gives(0, 100));
        idle("passes, not next", -2, t -> t.passes(0, 7, 1));
        idle("passes, up", -2, t -> t.passes(0, 5, 1));
        idle("passes, by the law", -2, t -> t.passes(1, 8, 1));
        idle("passes, too few", -3, t -> t.passes(2, 7, 99));
        idle("passes, itself", NONE, t -> t.passes(0, 0, 1));
        idle("passes, 0", NONE, t -> t.passes(0, 1, 0));
        idle("eats, too few", -3, t -> t.eats(7, 99));
        idle("eats, 100", NONE, t -> t.eats(0, 100));
        in("all plates, ", t -> giveAll(t));
        idle("gives, 10000", -2, t -> t.gives(1, 1));
        idle("passes, 10000", -2, t -> t.passes(0, 1, 1));
        in("", t -> 0);
    }

    private static long giveAll(BorderTable t) {
        for (int k = 0; k < 102; k++) {
            t.gives(1, 99);
        }
        t.gives(1, Math.min(99, 9999 - t.led(1, 0)));
        return t.gives(0, 9);
    }

    /** Calls that only ask. */
    private static void asking() {
        in("", t -> 0);
        idle("two", 1, t -> t.two(0, 1, 0));
        idle("two, what 3", NONE, t -> t.two(0, 1, 3));
        idle("worth, no such", -1000, t -> t.worth(0, 40));
        idle("soonest", 1, t -> t.soonest(0, 1, 0));
        idle("soonest, up", NONE, t -> t.soonest(0, 5, 0));
        idle("rumour", 0, t -> t.rumour(0, 0, 1));
        idle("rumour, up", -3, t -> t.rumour(5, 0, 1));
        idle("heard, no such", NONE, t -> t.heard(40, 0));
        idle("smuggled", 1, t -> t.smuggled(0, 1, 2));
        idle("smuggled, no way", -2, t -> t.smuggled(0, 3, 2));
        idle("exchange, no such", -1000000, t -> t.exchange(3));
        idle("exchange", 1, t -> t.exchange(0) >= -2 ? 1 : 0);
        idle("missing, no such", -100000, t -> t.missing(3));
        idle("fed, one twice", NONE, t -> t.fed(0, 0));
        idle("led, no such", NONE, t -> t.led(0, 5));
        idle("count, no such", NONE, t -> t.count(7));
        idle("strays, home, sum, wrong", 1, t -> t.strays() + t.home() + t.sum() + t.wrong() > -99999 ? 1 : 0);
    }

    /** A table is used for 512 calls: the last of them are answered like the first. */
    private static void lastCalls() {
        BorderTable t = at(0, 2);
        law(t, "h50+l*5+m(1=1);w0-l(1=1)");
        for (int call = 6; call + 2 <= 512; call += 2) {
            int n = call / 2 % 19 - 9;
            due("call " + (call + 1), t.liking(0, 1, n), true);
            due("call " + (call + 2), t.sum(), 50 + 5 * n);
        }
    }

    public static void main(String[] args) {
        due("two tables set alike are alike", whole(set()).equals(whole(set())), true);
        guests();
        tapes();
        told();
        plates();
        asking();
        lastCalls();
        end();
    }
}
