/**
 * The sentences of promises 1 to 20, one after the other, each with the case at its edge: too small, too large, empty,
 * full, a wrap-around, a refused call. Not a word of a promise is left out (Quoting sees to that).
 */
public final class Boundary1To20Tests extends Quoting {
    private static final int[] FAR = {MOST, LEAST, MOST - 1, LEAST + 1, 1 << 16, -(1 << 16)};

    private static void p1() throws Exception {
        promise(1);
        BorderTable t = new BorderTable();
        says("No GUESTS");
        is("how many", t.count(0), 0);
        for (int g = 0; g < 16; g++) {
            is("seat of " + g, t.count(20 + g), NONE);
            is("worth of " + g, t.worth(g, 0), -1000);
            is("plates of " + g, t.led(g, 0), NONE);
        }
        is("sum", t.sum(), 0);
        is("strays", t.strays(), 0);
        is("home", t.home(), 0);
        is("exchanges", t.exchanges(), 0);
        is("all seats are empty, side 0", t.check(0, 0), NONE);
        numbers(t, -1, -1, -1, -1, -1, -1, -1, -1, -1, -1, -1, -1, -1, -1, -1, -1, -1, -1, -1, -1);
        is("all seats are empty, side 1", t.check(1, 20), NONE);
        is("none sits, none was kept", t.undo(), false);
        says("LAW");
        BorderTable u = at(0, 2);
        is("clauses", u.count(1), 0);
        is("all may", u.two(0, 1, 0) + u.two(1, 0, 0), 2);
        is("no harm, no v", u.two(0, 1, 1) + u.two(0, 1, 2), 0);
        is("worth nothing", u.worth(0, 0), 0);
        says("RAIN");
        is("rains", u.count(3), 0);
        is("dry at the last minute", u.soonest(0, 1, 99), 100);
        says("SPEECHES");
        is("speeches", u.count(4), 0);
        for (int s = 0; s < 40; s++) {
            is("nothing heard at " + s, u.heard(s, 999), 0);
        }
        says("COUNTS");
        is("counts", u.count(5), 0);
        is("nobody's word", u.missing(0), -100000);
        is("none wrong", u.wrong(), NONE);
        says("THE SEED 1");
        is("X", u.count(6), 1);
        u.draw(1);
        is("the first X drawn", u.count(6), 25173 + 13849);
    }

    private static void p2() throws Exception {
        promise(2);
        BorderTable t = new BorderTable();
        says("A GUEST, at a SEAT");
        is("the first seat", t.guest(0, 0), 0);
        is("the last seat", t.guest(1, 39), 1);
        is("sits at the first", t.count(20), 0);
        is("sits at the last", t.count(21), 39);
        says("(NONE: at none)");
        is("at none", t.guest(0, NONE), 2);
        is("none", t.count(22), NONE);
        says("-2: somebody sits there");
        is("at the first seat", t.guest(0, 0), -2);
        is("at the last seat", t.guest(0, 39), -2);
        is("two at none are not in one another's way", t.guest(1, NONE), 3);
        t.sit(0, 1);
        is("nobody sits where somebody sat", t.guest(0, 0), 4);
        t.dies(4);
        is("nobody sits where one died", t.guest(1, 0), 5);
        says("NONE: no such ones");
        is("land -1", t.guest(-1, 2), NONE);
        is("land 2", t.guest(2, 2), NONE);
        is("seat -2", t.guest(0, -2), NONE);
        is("seat 40", t.guest(0, 40), NONE);
        for (int far : FAR) {
            is("far land", t.guest(far, 2), NONE);
            is("far seat", t.guest(0, far), NONE);
        }
        is("no such land ahead of a taken seat", t.guest(2, 0), NONE);
        is("none of them is a guest", t.count(0), 6);
        says("its number");
        for (int g = 6; g < 16; g++) {
            is("the next", t.guest(g & 1, g), g);
        }
        says("16 are there");
        is("a 17th at an empty seat", t.guest(0, 30), NONE);
        is("a 17th at none", t.guest(0, NONE), NONE);
        is("a 17th at a taken seat", t.guest(0, 0), NONE);
        t.dies(15);
        is("the dead count", t.guest(0, 15), NONE);
        is("sixteen", t.count(0), 16);
    }

    private static void p3() throws Exception {
        promise(3);
        BorderTable t = at(0, 1);
        law(t, "h20+l-2*m(1=1)");
        says("LIKING of a for b: true");
        is("before", t.two(0, 1, 1), 20);
        is("9", t.liking(0, 1, 9), true);
        is("then", t.two(0, 1, 1), 29);
        is("-9", t.liking(0, 1, -9), true);
        is("then", t.two(0, 1, 1), 11);
        is("0", t.liking(0, 1, 0), true);
        is("of b for a is another one", t.liking(1, 0, 9), true);
        is("then", t.two(0, 1, 1), 2);
        says("false: no such ones");
        is("10", t.liking(0, 1, 10), false);
        is("-10", t.liking(0, 1, -10), false);
        is("guest -1", t.liking(-1, 1, 0), false);
        is("guest 2 of two", t.liking(2, 1, 0), false);
        is("for guest -1", t.liking(0, -1, 0), false);
        is("for guest 2 of two", t.liking(0, 2, 0), false);
        for (int far : FAR) {
            is("far", t.liking(far, 0, 0) || t.liking(0, far, 0) || t.liking(0, 1, far), false);
        }
        is("refused ones change nothing", t.two(0, 1, 1), 2);
        says("one twice");
        is("0 for 0", t.liking(0, 0, 0), false);
        is("1 for 1", t.liking(1, 1, 9), false);
    }

    private static void p4() throws Exception {
        promise(4);
        BorderTable t = at(5, NONE, 8);
        says("A living GUEST sits at an empty SEAT");
        is("the first seat", t.sit(0, 0), true);
        is("there", t.count(20), 0);
        is("the last seat", t.sit(0, 39), true);
        is("there", t.count(20), 39);
        is("one who was up", t.sit(1, 0), true);
        is("there", t.count(21), 0);
        says("(NONE: gets up, also one who has none): true");
        is("gets up", t.sit(1, NONE), true);
        is("has none", t.sit(1, NONE), true);
        is("up", t.count(21), NONE);
        is("its seat is empty", t.sit(2, 0), true);
        says("false: no such ones");
        is("seat 40", t.sit(0, 40), false);
        is("seat -2", t.sit(0, -2), false);
        is("guest -1", t.sit(-1, 1), false);
        is("guest 3 of three", t.sit(3, 1), false);
        is("guest -1 gets up", t.sit(-1, NONE), false);
        for (int far : FAR) {
            is("far", t.sit(far, 1) || t.sit(0, far) || t.sit(far, NONE), false);
        }
        is("nobody moved", t.count(20) * 100 + t.count(22), 3900);
        says("somebody sits there (itself, too)");
        is("somebody", t.sit(1, 39), false);
        is("itself", t.sit(0, 39), false);
        is("both sit where they sat", t.count(20) * 10 + t.count(21), 389);
        says("A living GUEST");
        t.dies(2);
        is("a dead one", t.sit(2, 1), false);
        is("a dead one gets up", t.sit(2, NONE), false);
        is("the dead one's seat", t.sit(1, 0), true);
    }

    private static void p5() throws Exception {
        promise(5);
        BorderTable t = new BorderTable();
        says("Twenty bytes come behind the tape");
        is("the first row", t.feed(0x70303D30, 0, 0, 0, 0), 20);
        is("bytes", t.count(2), 20);
        is("the second row", t.feed(-1, -1, -1, -1, -1), 40);
        is("the first one is still ahead", t.law(4), -1001);
        says("the highest of each int first");
        t.feed(0x70283D31, 0, 0, 0, 0);
        is("p ( = 1", t.law(4), -1002);
        t.feed(0x70283133, 0x3D353929, 0, 0, 0);
        is("the second int behind the first", t.law(8), 1);
        t.feed(0, 0, 0, 1, 0x80000000);
        is("numbers of four bytes", t.check(0, 0), NONE);
        BorderTable u = at(2, 0);
        u.feed(1, 0, -1, -1, -1);
        is("numbers as they were fed", u.check(0, 5), NONE);
        u.feed(-1, -1, -1, -1, 0xFFFFFF7F);
        u.sit(0, NONE);
        u.sit(1, NONE);
        is("the last of them", u.check(0, 5), 4);
        says("how many it has");
        for (int k = 1; k <= 11; k++) {
            is("row " + k, t.feed(MOST, LEAST, 0, -1, k), 20 * k);
        }
        says("NONE if that would be more than 220");
        is("a twelfth row", t.feed(0, 0, 0, 0, 0), NONE);
        is("no byte of it came", t.count(2), 220);
        is("again", t.feed(0, 0, 0, 0, 0), NONE);
        t.law(1);
        is("once it is empty", t.feed(0, 0, 0, 0, 0), 20);
    }

    private static void p6() throws Exception {
        promise(6);
        BorderTable t = new BorderTable();
        says("THE LAW by the first n bytes of the tape");
        feed(t, 'p', '(', '1', '=', '1', ')', ';', 'x');
        is("what comes behind is not read", t.law(6), 1);
        feed(t, 'p', '(', '1', '=', '1', ')', ';', 'x');
        is("one byte more is", t.law(7), -1007);
        says("(1 to 200; empty then)");
        feed(t, 'p');
        is("1", t.law(1), -1001);
        is("empty behind a fault", t.count(2), 0);
        String longest = "p(" + "1=1&".repeat(49) + "1";
        is("199 bytes, no end", law(t, longest), -1199);
        is("200 bytes", law(t, "p(" + "1=1&".repeat(48) + "11=1)"), 1);
        is("empty behind a law", t.count(2), 0);
        says("in place of the one before");
        is("three", law(t, "w1(1=1);h2(1=1);v3(1=1)"), 3);
        is("one", law(t, "w4(1=1)"), 1);
        is("clauses", t.count(1), 1);
        BorderTable v = at(0, 1);
        law(v, "w1(1=1);p(1=0)");
        for (int k = 0; k < 3; k++) {
            law(v, "w1(1=1)");
            is("nothing is left of an earlier one, " + k, v.two(0, 1, 0), 1);
        }
        for (int k = 0; k < 30; k++) {
            is("long ones", law(t, "p(" + "1=1&".repeat(46) + "f=" + k % 3 + ")"), 1);
            BorderTable u = at(0, 1);
            law(u, "w1(1=0)");
            for (int i = 0; i < k; i++) {
                law(u, "p(" + "1=1&".repeat(46) + "f=" + i % 3 + ")");
            }
            is("the last of " + k, u.two(0, 1, 0), k == 0 || k % 3 == 1 ? 1 : 0);
        }
        says("how many CLAUSES");
        is("one", law(t, "p(1=1)"), 1);
        is("14", law(t, "p(1=1)" + ";p(1=1)".repeat(13)), 14);
        says("a FAULT: -1000 times its number, less its place");
        is("at place 0", law(t, "q"), -1000);
        is("at the end", law(t, "p(1=1"), -1006 + 1);
        is("at place 199", law(t, longest + "("), -1199);
        is("fault 2", law(t, "p(123456"), -2007);
        is("fault 4", law(t, "p(1=1);".repeat(14) + "w"), -4098);
        is("fault 5", law(t, "p(!!!!!!"), -5007);
        says("(the TEXT before stays)");
        is("14 stay", t.count(1), 14);
        BorderTable u = at(0, 1);
        law(u, "w7(1=1);h5(1=1);p(f=0)");
        law(u, "w8(1=1);h6(1=1);p(f=1);");
        is("worth as before", u.worth(0, 0), 7);
        is("harm as before", u.two(0, 1, 1), 5);
        is("passing as before", u.two(0, 1, 0) - u.two(1, 0, 0), 1);
        says("NONE: no such n");
        for (int k = 0; k < 11; k++) {
            t.feed(0, 0, 0, 0, 0);
        }
        is("0", t.law(0), NONE);
        is("-1", t.law(-1), NONE);
        is("201", t.law(201), NONE);
        is("220", t.law(220), NONE);
        for (int far : FAR) {
            is("far", t.law(far), NONE);
        }
        says("it has not so many");
        is("none of an empty tape", new BorderTable().law(1), NONE);
        feed(u, 'x');
        is("21 of 20", u.law(21), NONE);
        is("200 of 20", u.law(200), NONE);
        says("(the tape stays)");
        is("220 stay", t.count(2), 220);
        is("20 stay", u.count(2), 20);
        is("20 of 20", u.law(20), -1000);
        is("200 of 220", t.law(200), -1000);
        is("all are gone then", t.count(2), 0);
    }

    private static void p7() throws Exception {
        promise(7);
        BorderTable t = at(2, 4, 3, 0, 6, NONE);
        law(t, "p(!f=0|g=1);h40+f*10+g(1=1);v100*f+g(1=1)");
        says("Of two GUESTS who sit");
        is("a far one's harm", t.two(3, 4, 1), 74);
        says("what 0 whether a may pass to b (1, 0; NEXT to one another)");
        is("behind, it may", t.two(0, 1, 0), 1);
        is("across, it may not", t.two(0, 2, 0), 0);
        is("before, it may not", t.two(0, 3, 0), 0);
        is("back it may", t.two(2, 0, 0), 1);
        is("not next: two places", t.two(0, 4, 0), -2);
        is("not next: aslant", t.two(1, 2, 0), -2);
        says("1 their HARM");
        is("the lower number first", t.two(1, 0, 1), 41);
        is("so, too", t.two(0, 1, 1), 41);
        says("2 v of a passing from a to b (NEXT)");
        is("from 1 to 0", t.two(1, 0, 2), 100);
        is("from 0 to 1", t.two(0, 1, 2), 1);
        is("not next", t.two(0, 4, 2), -2);
        says("-2: they do not sit (so)");
        for (int what = 0; what < 3; what++) {
            is("a is up", t.two(5, 0, what), -2);
            is("b is up", t.two(0, 5, what), -2);
            is("both are up", at(NONE, NONE).two(0, 1, what), -2);
            is("one is up, the other one sits at an end", at(NONE, 1).two(0, 1, what), -2);
            is("one sits at an end, the other one is up", at(1, NONE).two(0, 1, what), -2);
            is("the table has no way round its ends", at(0, 38).two(0, 1, what), what == 1 ? 0 : -2);
            is("nor round it from side to side", at(39, 0).two(0, 1, what), what == 1 ? 0 : -2);
        }
        says("NONE: no such ones");
        is("what -1", t.two(0, 1, -1), NONE);
        is("what 3", t.two(0, 1, 3), NONE);
        is("what 3 ahead of up", t.two(0, 5, 3), NONE);
        is("guest -1", t.two(-1, 0, 1), NONE);
        is("guest 6 of six", t.two(0, 6, 1), NONE);
        for (int far : FAR) {
            is("far a", t.two(far, 0, 1), NONE);
            is("far b", t.two(0, far, 1), NONE);
            is("far what", t.two(0, 1, far), NONE);
        }
        says("one twice");
        is("0 and 0", t.two(0, 0, 1), NONE);
        is("one who is up, twice", t.two(5, 5, 0), NONE);
        t.dies(4);
        says("they do not sit");
        is("a dead one", t.two(3, 4, 1), -2);
    }

    private static void p8() throws Exception {
        promise(8);
        BorderTable t = at(0, NONE);
        law(t, "w2*s+f*5(s<39);w99(1=1)");
        says("What it is worth that a GUEST sits at a SEAT");
        is("the first seat", t.worth(0, 0), 0);
        is("the last seat", t.worth(0, 39), 99);
        is("the last but one", t.worth(1, 38), 81);
        says("(whether it does or not)");
        is("elsewhere", t.worth(0, 20), 40);
        is("one who is up", t.worth(1, 1), 7);
        is("where another one sits", t.worth(1, 0), 5);
        t.dies(1);
        is("a dead one", t.worth(1, 0), 5);
        says("-1000: no such ones");
        is("seat 40", t.worth(0, 40), -1000);
        is("seat -1", t.worth(0, -1), -1000);
        is("guest -1", t.worth(-1, 0), -1000);
        is("guest 2 of two", t.worth(2, 0), -1000);
        for (int far : FAR) {
            is("far guest", t.worth(far, 0), -1000);
            is("far seat", t.worth(0, far), -1000);
        }
    }

    private static void p9() throws Exception {
        promise(9);
        BorderTable t = new BorderTable();
        says("RAIN");
        BorderTable u = at(0, 2, 1);
        u.rain(5, 1, 19);
        is("one place told", u.soonest(0, 1, 5), -2);
        is("the place ahead is dry", u.soonest(0, 2, 5), 6);
        says("NONE: no such ones");
        is("minute -1", t.rain(-1, 0, 0), NONE);
        is("minute 1000", t.rain(1000, 0, 0), NONE);
        is("from -1", t.rain(0, -1, 0), NONE);
        is("from 20", t.rain(0, 20, 20), NONE);
        is("to 20", t.rain(0, 0, 20), NONE);
        is("to -1", t.rain(0, 0, -1), NONE);
        is("to ahead of from", t.rain(0, 1, 0), NONE);
        is("to far ahead of from", t.rain(0, 19, 0), NONE);
        for (int far : FAR) {
            is("far minute", t.rain(far, 0, 0), NONE);
            is("far from", t.rain(0, far, 19), NONE);
            is("far to", t.rain(0, 0, far), NONE);
        }
        is("none is told", t.count(3), 0);
        says("how many are told");
        is("minute 0, all places", t.rain(0, 0, 19), 1);
        is("minute 999, one place", t.rain(999, 19, 19), 2);
        for (int k = 3; k <= 10; k++) {
            is("the same again", t.rain(0, 0, 0), k);
        }
        says("10 are");
        is("an eleventh", t.rain(0, 0, 0), NONE);
        is("ten", t.count(3), 10);
    }

    private static void p10() throws Exception {
        promise(10);
        BorderTable t = at(0, 2, 6, NONE, 1);
        says("SOONEST");
        is("minute 0", t.soonest(0, 1, 0), 1);
        is("minute 99", t.soonest(0, 1, 99), 100);
        is("the farthest", row(16).soonest(15, 0, 99), 114);
        says("(of one to itself the MINUTE told)");
        is("0", t.soonest(0, 0, 0), 0);
        is("99", t.soonest(0, 0, 99), 99);
        t.rain(0, 3, 3);
        is("in the rain", t.soonest(2, 2, 7), 7);
        says("-2: never");
        is("nobody between", t.soonest(0, 2, 0), -2);
        law(t, "p(f>g)");
        is("by the law", t.soonest(0, 1, 0), -2);
        is("back it goes", t.soonest(1, 0, 0), 1);
        t.rain(50, 0, 0);
        is("the last dry minute", t.soonest(1, 0, 49), 50);
        is("the first wet one", t.soonest(1, 0, 50), -2);
        says("NONE: no such ones");
        is("minute -1", t.soonest(0, 1, -1), NONE);
        is("minute 100", t.soonest(0, 1, 100), NONE);
        is("minute 100, itself", t.soonest(0, 0, 100), NONE);
        is("guest -1", t.soonest(-1, 0, 0), NONE);
        is("guest 5 of five", t.soonest(0, 5, 0), NONE);
        for (int far : FAR) {
            is("far a", t.soonest(far, 0, 0), NONE);
            is("far b", t.soonest(0, far, 0), NONE);
            is("far minute", t.soonest(0, 1, far), NONE);
        }
        says("one does not sit");
        is("a", t.soonest(3, 0, 0), NONE);
        is("b", t.soonest(0, 3, 0), NONE);
        is("both, itself", t.soonest(3, 3, 0), NONE);
        t.dies(4);
        is("a dead one", t.soonest(0, 4, 0), NONE);
    }

    private static void p11() throws Exception {
        promise(11);
        BorderTable t = at(2, 0, 4, 1, 5, 3, NONE, 38);
        law(t, "p(!(f=0&g=5|f=5))");
        says("A RUMOUR from a GUEST at a MINUTE");
        is("minute 0", t.rumour(0, 0, 20), 3);
        is("minute 99", t.rumour(0, 99, 20), 102);
        says("what NONE how many have it at last (itself, too)");
        is("six", t.rumour(0, 0, NONE), 6);
        is("itself alone", t.rumour(7, 0, NONE), 1);
        says("20 the MINUTE at which the last one gets it");
        is("three minutes later", t.rumour(0, 10, 20), 13);
        is("itself alone", t.rumour(7, 10, 20), 10);
        says("else from whom GUEST what has it");
        is("from the first", t.rumour(0, 0, 1), 0);
        is("from the second", t.rumour(0, 0, 3), 1);
        is("the first gets it, too", t.rumour(4, 0, 0), 2);
        says("(the lowest of those by whom it gets it first");
        is("3 and 4 get it at once, 5 by either", t.rumour(0, 0, 5), 3);
        law(t, "p(!(f=0&g=5|f=5|f=1&g=3))");
        is("not by a lower one who gets it later", t.rumour(0, 0, 5), 4);
        says("itself: NONE)");
        is("itself", t.rumour(0, 0, 0), NONE);
        is("itself alone", t.rumour(7, 0, 7), NONE);
        says("-2: never");
        is("far off", t.rumour(0, 0, 7), -2);
        is("up", t.rumour(0, 0, 6), -2);
        t.dies(2);
        is("dead", t.rumour(0, 0, 2), -2);
        says("-3: no such ones");
        is("minute -1", t.rumour(0, -1, NONE), -3);
        is("minute 100", t.rumour(0, 100, NONE), -3);
        is("guest -1", t.rumour(-1, 0, NONE), -3);
        is("guest 8 of eight", t.rumour(8, 0, NONE), -3);
        is("what 8 of eight", t.rumour(0, 0, 8), -3);
        is("what -2", t.rumour(0, 0, -2), -3);
        is("what 19", t.rumour(0, 0, 19), -3);
        is("what 21", t.rumour(0, 0, 21), -3);
        for (int far : FAR) {
            is("far guest", t.rumour(far, 0, NONE), -3);
            is("far minute", t.rumour(0, far, NONE), -3);
            is("far what", t.rumour(0, 0, far), -3);
        }
        is("sixteen have it", row(16).rumour(0, 0, NONE), 16);
        is("what 15 of sixteen", row(16).rumour(0, 0, 15), 14);
        is("what 16 of sixteen", row(16).rumour(0, 0, 16), -3);
        says("it does not sit");
        is("up", t.rumour(6, 0, NONE), -3);
        is("dead", t.rumour(2, 0, 20), -3);
        is("up, of one who never gets it", t.rumour(6, 0, 7), -3);
        is("up, of itself", t.rumour(6, 0, 6), -3);
    }

    private static void p12() throws Exception {
        promise(12);
        BorderTable t = new BorderTable();
        says("NONE: no such ones");
        is("place -1", t.speech(-1, 0, 1), NONE);
        is("place 20", t.speech(20, 0, 1), NONE);
        is("minute -1", t.speech(0, -1, 1), NONE);
        is("minute 1000", t.speech(0, 1000, 1), NONE);
        is("speed 0", t.speech(0, 0, 0), NONE);
        is("speed 6", t.speech(0, 0, 6), NONE);
        for (int far : FAR) {
            is("far place", t.speech(far, 0, 1), NONE);
            is("far minute", t.speech(0, far, 1), NONE);
            is("far speed", t.speech(0, 0, far), NONE);
        }
        is("none is told", t.count(4), 0);
        says("A SPEECH");
        is("first place, first minute, slowest", t.speech(0, 0, 1), 1);
        is("last place, last minute, fastest", t.speech(19, 999, 5), 2);
        says("how many are told");
        for (int k = 3; k <= 10; k++) {
            is("one more", t.speech(k, k, 1 + k % 5), k);
        }
        says("10 are");
        is("an eleventh", t.speech(0, 0, 1), NONE);
        is("ten", t.count(4), 10);
        is("ten are heard at last", t.heard(38, 999), 1023);
    }

    private static void p13() throws Exception {
        promise(13);
        BorderTable t = new BorderTable();
        t.speech(0, 0, 1);
        t.speech(19, 999, 5);
        says("HEARD by a SEAT at a MINUTE (0 to 999), as bits");
        is("minute 0", t.heard(0, 0), 1);
        is("minute 999, the first seat", t.heard(0, 999), 1);
        is("minute 999, the last seat", t.heard(39, 999), 3);
        is("minute 998, the last seat", t.heard(39, 998), 1);
        is("a place too far", t.heard(10, 4), 0);
        is("just then", t.heard(10, 5), 1);
        for (int k = 2; k < 10; k++) {
            t.speech(19, 998, 1);
        }
        is("the tenth bit", t.heard(38, 998), 1023 - 2);
        says("NONE: no such ones");
        is("seat -1", t.heard(-1, 0), NONE);
        is("seat 40", t.heard(40, 0), NONE);
        is("minute -1", t.heard(0, -1), NONE);
        is("minute 1000", t.heard(0, 1000), NONE);
        for (int far : FAR) {
            is("far seat", t.heard(far, 0), NONE);
            is("far minute", t.heard(0, far), NONE);
        }
    }

    private static void p14() throws Exception {
        promise(14);
        BorderTable t = at(0, 2, 4, 1, NONE, 38);
        law(t, "v500(f=0&g=1);v900(f=0);v0(1=1)");
        says("SMUGGLED, what 0 above");
        is("1 of 2", t.smuggled(0, 1, 0), 1);
        says("1 below the line, without a common divisor");
        is("1 of 2", t.smuggled(0, 1, 1), 2);
        is("1 of 1", t.smuggled(1, 2, 0) * 10 + t.smuggled(1, 2, 1), 11);
        law(t, "v1000(1=1)");
        is("0 of 1", t.smuggled(0, 1, 0) * 10 + t.smuggled(0, 1, 1), 1);
        BorderTable u = row(8);
        law(u, "v999(1=1)");
        is("the least of all odds", u.smuggled(0, 6, 0), 1);
        is("through the most", u.smuggled(0, 6, 1), 1000000000000000000L);
        says("2 passings");
        is("one", u.smuggled(0, 1, 2), 1);
        is("six", u.smuggled(0, 6, 2), 6);
        says("10 + i the GUEST at place i (0: from)");
        for (int i = 0; i <= 6; i++) {
            is("place " + i, u.smuggled(0, 6, 10 + i), i);
            is("place " + i + ", back", u.smuggled(6, 0, 10 + i), 6 - i);
        }
        says("-1: no such ones");
        is("from -1", t.smuggled(-1, 0, 0), -1);
        is("from 6 of six", t.smuggled(6, 0, 0), -1);
        is("to -1", t.smuggled(0, -1, 0), -1);
        is("to 6 of six", t.smuggled(0, 6, 0), -1);
        says("one twice");
        is("0 to 0", t.smuggled(0, 0, 0), -1);
        is("no way, one twice", t.smuggled(5, 5, 2), -1);
        says("one does not sit");
        is("from", t.smuggled(4, 0, 0), -1);
        is("to", t.smuggled(0, 4, 0), -1);
        says("what not 0 to 2 or 10 to 16");
        for (int what : new int[] {-1, 3, 9, 17, 20, 100}) {
            is("what " + what, u.smuggled(0, 6, what), -1);
            is("no way, what " + what, u.smuggled(0, 7, what), -1);
        }
        for (int far : FAR) {
            is("far", t.smuggled(far, 0, 0) + t.smuggled(0, far, 0) + t.smuggled(0, 1, far), -3);
        }
        says("else -2: no way");
        is("seven passings", u.smuggled(0, 7, 0), -2);
        is("nobody between", t.smuggled(0, 5, 2), -2);
        is("ahead of no such place", t.smuggled(0, 5, 16), -2);
        is("even of place 0", t.smuggled(0, 5, 10), -2);
        says("else -1: no such place");
        is("behind the last of two", u.smuggled(0, 1, 12), -1);
        is("the last one", u.smuggled(0, 5, 15), 5);
        is("behind the last of six", u.smuggled(0, 5, 16), -1);
    }

    private static void p15() throws Exception {
        promise(15);
        says("THE SUM");
        is("nobody", new BorderTable().sum(), 0);
        BorderTable t = at(0, 4, 6, NONE);
        law(t, "h99(1=1)");
        is("two places apart, not three", t.sum(), 198);
        law(t, "w99(1=1)");
        is("less than 0", t.sum(), -297);
        BorderTable u = new BorderTable();
        for (int g = 0; g < 16; g++) {
            u.guest(0, g);
        }
        law(u, "h99(1=1);w0-99(1=1)");
        // sixteen at eight places: 8 twos across, 7 * 4 beside, 6 * 4 two places apart
        is("the greatest", u.sum(), 99 * (8 + 28 + 24) + 99 * 16);
    }

    private static void p16() throws Exception {
        promise(16);
        BorderTable t = at(0, 2, 4, NONE);
        law(t, "w9(f=0&s=8);w7(f=1&s=2|f=3&s=39);h3(d<2)");
        says("SEATING by the first n bytes of the tape");
        feed(t, 2, 8, 40);
        is("the third byte is not asked", t.seating(3, 2, NONE), 3 - 16);
        says("(SEATS, all different; empty then)");
        is("empty then", t.count(2), 0);
        feed(t, 0, 39);
        is("the first seat and the last one", t.seating(9, 2, 3), 39);
        says("of GUESTS (bits, n of them)");
        feed(t, 30);
        is("one", t.seating(1, 1, NONE), 3 - 7);
        says("what NONE THE SUM then");
        feed(t, 8, 2);
        is("the sum then", t.seating(3, 2, NONE), 3 - 16);
        is("they sit as before", t.count(20) * 100 + t.count(21), 2);
        says("else the SEAT of GUEST what");
        feed(t, 2, 8);
        is("of 0", t.seating(3, 2, 0), 8);
        feed(t, 2, 8);
        is("of 1", t.seating(3, 2, 1), 2);
        is("they sit as before", t.count(20) * 100 + t.count(21), 2);
        says("16 as NONE, but they sit so then");
        feed(t, 8, 2);
        is("the sum then", t.seating(3, 2, 16), -13);
        is("they sit so", t.count(20) * 100 + t.count(21), 802);
        is("the sum now", t.sum(), -13);
        seatingRefused();
    }

    private static void seatingRefused() {
        BorderTable t = at(0, 2, 4, NONE, 6);
        t.dies(4);
        says("-999999: a SEAT twice");
        feed(t, 8, 8);
        is("twice", t.seating(3, 2, NONE), -999999);
        BorderTable seven = row(7);
        feed(seven, 18, 10, 12, 14, 16, 20, 18);
        is("the first and the last of seven", seven.seating(127, 7, NONE), -999999);
        says("somebody else's");
        feed(t, 4, 8);
        is("the first", t.seating(3, 2, NONE), -999999);
        feed(t, 8, 4);
        is("the second", t.seating(3, 2, 16), -999999);
        feed(t, 2, 0);
        is("one another's are theirs", t.seating(3, 2, NONE), 0);
        feed(t, 6);
        is("a dead one's is nobody's", t.seating(1, 1, NONE), 0);
        says("no such SEAT");
        feed(t, 40);
        is("40", t.seating(1, 1, NONE), -999999);
        feed(t, 255);
        is("255", t.seating(1, 1, NONE), -999999);
        says("a GUEST dead");
        feed(t, 8);
        is("dead", t.seating(16, 1, 4), -999999);
        feed(t, 8, 10);
        is("one of two", t.seating(17, 2, 16), -999999);
        is("nobody sits otherwise", t.count(20) * 1000 + t.count(21) * 100 + t.count(22), 204);
        says("empty then");
        is("with -999999, too", t.count(2), 0);
        says("-1000000: no such ones");
        feed(t, 8, 10, 12, 14, 16, 18, 20);
        is("n 0", t.seating(0, 0, NONE), -1000000);
        is("n 8", t.seating(255, 8, NONE), -1000000);
        is("n is less", t.seating(3, 1, NONE), -1000000);
        is("n is more", t.seating(3, 3, NONE), -1000000);
        is("no guest 5", t.seating(32, 1, NONE), -1000000);
        is("the highest bit", t.seating(LEAST, 1, NONE), -1000000);
        is("what -2", t.seating(1, 1, -2), -1000000);
        is("what 17", t.seating(1, 1, 17), -1000000);
        for (int far : FAR) {
            is("far", t.seating(far, 1, NONE) + t.seating(1, far, NONE) + t.seating(1, 1, far), -3000000);
        }
        says("(GUEST what none of them, too)");
        is("a guest, none of them", t.seating(1, 1, 1), -1000000);
        is("no guest", t.seating(1, 1, 5), -1000000);
        says("it has not so many (the tape stays)");
        is("20 stay", t.count(2), 20);
        BorderTable u = row(7);
        is("an empty tape", u.seating(1, 1, NONE), -1000000);
        is("seven of none", u.seating(127, 7, NONE), -1000000);
        feed(u, 8, 10, 12, 14, 16, 18, 20);
        is("seven of twenty", u.seating(127, 7, NONE), 0);
        feed(t, 4);
        is("no such ones ahead of somebody else's", t.seating(17, 1, NONE), -1000000);
    }

    private static void p17() throws Exception {
        promise(17);
        BorderTable t = at(0, 2, NONE);
        law(t, "w5(f=0&s=39);w5(f=1&s=39);w99(f=2)");
        says("EXCHANGE, what 0 the GUEST");
        is("the lower of two", t.exchange(0), 0);
        says("1 the SEAT");
        is("the last seat", t.exchange(1), 39);
        says("2 THE SUM then");
        is("five less", t.exchange(2), -5);
        is("nobody moved", t.count(20), 0);
        says("-2 for 0, 1, THE SUM now for 2: there is none");
        law(t, "h7(1=1);w0-7*d(1=1);w0-8(!s=0&!s=2)");
        BorderTable u = new BorderTable();
        is("nobody", u.exchange(0) + u.exchange(1), -4);
        is("nobody's sum", u.exchange(2), 0);
        u.guest(0, NONE);
        law(u, "w99(1=1)");
        is("one who is up", u.exchange(0) + u.exchange(1), -4);
        is("its sum", u.exchange(2), 0);
        BorderTable v = at(0, 2);
        law(v, "h7(1=1);w9(s<3)");
        is("none is better", v.exchange(0) + v.exchange(1), -4);
        is("the sum now", v.exchange(2), 7 - 18);
        law(v, "h7(1=1);w7(f=0&s=0|f=1&s=2)");
        is("a like one is not better", v.exchange(0) + v.exchange(1), -4);
        law(v, "h7(1=1);w7(f=0&s=0|f=1&s=2);w0-1(1=1)");
        is("nor is one by 1 worse", v.exchange(0) + v.exchange(1), -4);
        says("-1000000: no such what");
        is("-1", t.exchange(-1), -1000000);
        is("3", t.exchange(3), -1000000);
        is("3 of nobody", new BorderTable().exchange(3), -1000000);
        for (int far : FAR) {
            is("far", t.exchange(far), -1000000);
        }
    }

    private static void p18() throws Exception {
        promise(18);
        says("EXCHANGES");
        BorderTable t = at(0, 2);
        law(t, "w9(f=0&s=2);w9(f=1&s=0)");
        is("one does for both", t.exchanges(), 1);
        is("done", t.count(20) * 10 + t.count(21), 20);
        is("none is left", t.exchanges(), 0);
        says("how many");
        is("nobody", new BorderTable().exchanges(), 0);
        BorderTable u = fiftyTwo();
        is("fifty at most", u.exchanges(), 50);
        is("the other two", u.exchanges(), 2);
        is("none", u.exchanges(), 0);
    }

    private static void p19() throws Exception {
        promise(19);
        says("STRAYS, as bits");
        is("nobody", new BorderTable().strays(), 0);
        BorderTable t = new BorderTable();
        for (int g = 0; g < 16; g++) {
            t.guest(1 - g % 2, g == 3 ? NONE : g);
        }
        is("all but one who is up", t.strays(), 65535 - 8);
        t.dies(15);
        is("the dead are none", t.strays(), 32767 - 8);
        for (int g = 0; g < 15; g++) {
            t.sit(g, g % 2 == 0 ? 39 - g : 20 + g - 1 + (g == 1 ? 18 : 0));
        }
        is("all at home", t.strays(), 0);
    }

    private static void p20() throws Exception {
        promise(20);
        says("HOME");
        BorderTable t = new BorderTable();
        is("nobody", t.home(), 0);
        for (int g = 0; g < 16; g++) {
            t.guest(0, 2 * g + 1);
        }
        is("sixteen of one land", t.home(), 16);
        BorderTable u = new BorderTable();
        for (int g = 0; g < 16; g++) {
            u.guest(1 - g % 2, g);
        }
        is("sixteen, each with one across", u.home(), 8);
        u.sit(0, 39);
        is("one more of one land", u.home(), 8);
        u.sit(2, 37);
        u.sit(1, NONE);
        is("one who is up is at home", u.home(), 7);
        says("-2: it can't be");
        BorderTable v = new BorderTable();
        for (int g = 0; g < 15; g++) {
            v.guest(0, 2 * g);
        }
        v.guest(0, 1);
        is("a side has room for all, so it always can be", v.home(), 1);
    }

    public static void main(String[] args) throws Exception {
        p1();
        p2();
        p3();
        p4();
        p5();
        p6();
        p7();
        p8();
        p9();
        p10();
        p11();
        p12();
        p13();
        p14();
        p15();
        p16();
        p17();
        p18();
        p19();
        p20();
        close();
        end();
    }
}
