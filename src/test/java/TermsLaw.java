/** The sentences of the terms up to the LAW's FAULTS, each with the case at its edge. What is left TermsTests has. */
final class TermsLaw extends Quoting {
    private TermsLaw() {
    }

    /** What an E comes to as the worth of guest 3 of land 1 at seat 7, in bounds. */
    private static int reckoned(String e) {
        BorderTable t = at(0, 2, 4, 1);
        is("it is a law: " + e, law(t, "w" + e + "(1=1)"), 1);
        return t.worth(3, 7);
    }

    /** Whether a C holds for guest 3 of land 1 at seat 7. */
    private static boolean holds(String c) {
        BorderTable t = at(0, 2, 4, 1);
        is("it is a law: " + c, law(t, "w1(" + c + ")"), 1);
        return t.worth(3, 7) == 1;
    }

    private static void seats() {
        says("SEATS 0 to 39");
        for (int s = -2; s <= 41; s++) {
            int answer = s == -1 ? 0 : s >= 0 && s < 40 ? 0 : NONE;
            is("seat " + s, new BorderTable().guest(0, s), answer);
        }
        says("SIDE (seat modulo 2), PLACE (through 2: 0 to 19)");
        BorderTable t = new BorderTable();
        t.guest(0, 0);
        t.guest(0, NONE);
        law(t, "hd+o*50(1=1)");
        for (int s = 1; s < 40; s++) {
            t.sit(1, s);
            is("from seat 0 to " + s, t.two(0, 1, 1), s / 2 + s % 2 * 50);
        }
        says("NEXT to a SEAT are those of the PLACES beside it on its SIDE and the one across (of its PLACE)");
        for (int s = 0; s < 40; s++) {
            BorderTable u = new BorderTable();
            u.guest(0, s);
            u.guest(0, NONE);
            int next = 0;
            for (int to = 0; to < 40; to++) {
                if (u.sit(1, to)) {
                    int due = to == s - 2 || to == s + 2 || to == (s % 2 == 0 ? s + 1 : s - 1) ? 1 : -2;
                    is("from " + s + " to " + to, u.two(0, 1, 0), due);
                    next += due == 1 ? 1 : 0;
                }
            }
            is("how many are next to " + s, next, s < 2 || s > 37 ? 2 : 3);
        }
    }

    private static void guests() {
        says("GUESTS 0 to 15");
        BorderTable t = new BorderTable();
        for (int g = 0; g <= 16; g++) {
            is("guest " + g, t.guest(0, NONE), g == 16 ? NONE : g);
        }
        is("worth of the last", t.worth(15, 0), 0);
        is("worth of a 17th", t.worth(16, 0), -1000);
        says("a LAND (0, 1)");
        for (int land = -1; land <= 2; land++) {
            is("land " + land, new BorderTable().guest(land, 0), land == 0 || land == 1 ? 0 : NONE);
        }
        says("living or dead, at a SEAT or at none");
        t.sit(3, 39);
        t.dies(4);
        is("at a seat", t.count(23), 39);
        is("at none", t.count(25), NONE);
        is("dead", t.count(24), -2);
        t.dies(3);
        is("a dead one is at none", t.sit(5, 39), true);
        says("(no two at one)");
        is("told", at(8).guest(0, 8), -2);
        is("sits down", t.sit(6, 39), false);
        says("LIKING of a GUEST for another one (-9 to 9; 0 at first)");
        BorderTable u = at(0, 1);
        law(u, "h50+l(1=1)");
        is("at first", u.two(0, 1, 1), 50);
        for (int n = -11; n <= 11; n++) {
            boolean fits = n >= -9 && n <= 9;
            is("" + n, u.liking(0, 1, n), fits);
            is("then, " + n, u.two(0, 1, 1), n < -9 ? 50 : 50 + Math.min(9, n));
            is("the other's, " + n, u.liking(1, 0, -n), fits);
        }
        is("itself", u.liking(0, 0, 1), false);
    }

    private static void clauses() {
        says("THE LAW: a TEXT of at most 200 bytes");
        BorderTable t = new BorderTable();
        is("6", law(t, "p(1=1)"), 1);
        is("200", law(t, "p(" + "1=1&".repeat(48) + "11=1)"), 1);
        feed(t, ("p(" + "1=1&".repeat(48) + "1111=1)").chars().toArray());
        is("201", t.law(201), NONE);
        is("its first 200", t.law(200), -1200);
        says("no blanks");
        is("ahead", law(t, " p(1=1)"), -1000);
        is("within", law(t, "p (1=1)"), -1001);
        is("between", law(t, "p(1= 1)"), -1004);
        is("behind", law(t, "p(1=1) "), -1006);
        says("(none at first)");
        is("clauses", new BorderTable().count(1), 0);
        says("CLAUSES (14 at most) with a ; (59) between two");
        for (int n = 1; n <= 14; n++) {
            is(n + " clauses", law(t, "p(1=1)" + ";p(1=1)".repeat(n - 1)), n);
        }
        is("15", law(t, "p(1=1)" + ";p(1=1)".repeat(14)), -4098);
        for (int c = 0; c < 256; c++) {
            feed(t, 'p', '(', '1', '=', '1', ')', c, 'p', '(', '1', '=', '1', ')');
            is("between two: " + c, t.law(13), c == 59 ? 2 : -1006);
        }
        is("ahead", law(t, ";p(1=1)"), -1000);
        is("behind", law(t, "p(1=1);"), -1007);
        is("two of them", law(t, "p(1=1);;p(1=1)"), -1007);
    }

    private static void kinds() {
        BorderTable t = at(0, 2, 1, 39, NONE);
        says("p and (C): who sits at a SEAT may pass to one NEXT to it, if some C holds");
        law(t, "p(f=0&g=1);p(f=2);w1(f=1)");
        is("by the first", t.two(0, 1, 0), 1);
        is("by the second", t.two(2, 0, 0), 1);
        is("by none, w and h are not asked", t.two(1, 0, 0) + t.two(0, 2, 0), 0);
        is("not to who is not next", t.two(2, 1, 0), -2);
        says("(without any p: all may)");
        law(t, "w1(1=0);h1(1=0);v1(1=0)");
        is("no p", t.two(0, 1, 0) + t.two(1, 0, 0) + t.two(0, 2, 0), 3);
        law(t, "p(1=0)");
        is("one p that never holds", t.two(0, 1, 0), 0);
        says("w, E and (C): what it is worth that a GUEST sits at a SEAT (-99 to 99)");
        int[][] worths = {{98, 98}, {99, 99}, {100, 99}, {99999, 99}, {-98, -98}, {-99, -99}, {-100, -99}, {0, 0}};
        for (int[] w : worths) {
            law(t, w[0] < 0 ? "w0-" + -w[0] + "(1=1)" : "w" + w[0] + "(1=1)");
            is("worth " + w[0], t.worth(0, 0), w[1]);
            is("sum with worth " + w[0], t.sum(), -4 * w[1]);
        }
        says("h, E and (C): the HARM of two GUESTS who sit (0 to 99");
        int[][] harms = {{98, 98}, {99, 99}, {100, 99}, {99999, 99}, {0, 0}, {-1, 0}, {-99, 0}};
        for (int[] h : harms) {
            law(t, h[0] < 0 ? "h0-" + -h[0] + "(1=1)" : "h" + h[0] + "(1=1)");
            is("harm " + h[0], t.two(0, 3, 1), h[1]);
            is("sum with harm " + h[0], t.sum(), 3 * h[1]);
        }
        is("of one who is up", t.two(0, 4, 1), -2);
        says("asked for the lower number, then the other one)");
        law(t, "h10*f+g+s+t*2(1=1)");
        is("0, 1", t.two(0, 1, 1), 5);
        is("1, 0", t.two(1, 0, 1), 5);
        is("2, 1", t.two(2, 1, 1), 10 + 2 + 2 + 2);
        says("v, E and (C): thousandths by which one is seen who passes under the cloth (0 to 1000)");
        int[][] seen = {{999, 999}, {1000, 1000}, {1001, 1000}, {99999, 1000}, {0, 0}, {-1, 0}};
        for (int[] v : seen) {
            law(t, v[0] < 0 ? "v0-" + -v[0] + "(1=1)" : "v" + v[0] + "(1=1)");
            is("v " + v[0], t.two(0, 1, 2), v[1]);
        }
        says("of w, h, v the E of the first CLAUSE whose C holds");
        law(t, "w1(s=9);h2(d=9);v3(d=9);w4(s<9);h5(d<9);v6(d<9);w7(1=1);h8(1=1);v9(1=1)");
        is("the second", t.worth(0, 0) * 100 + t.two(0, 1, 1) * 10 + t.two(0, 1, 2), 456);
        is("the first", t.worth(0, 9), 1);
        is("the third", t.worth(0, 10) * 10 + t.two(0, 3, 1), 78);
        says("(beyond its bounds the bound; none: 0)");
        law(t, "w999(s=0);h999(g=1);v9999(g=1);p(1=1)");
        is("beyond", t.worth(0, 0) + t.two(0, 1, 1) + t.two(0, 1, 2), 99 + 99 + 1000);
        is("none", t.worth(0, 1) + t.two(0, 2, 1) + t.two(0, 2, 2), 0);
    }

    private static void grammar() {
        says("C: PARTS with a | between two, one of which must hold");
        is("the first", holds("1=1|1=0|1=0"), true);
        is("the last", holds("1=0|1=0|1=1"), true);
        is("none", holds("1=0|1=0|1=0"), false);
        is("one alone", holds("1=1"), true);
        says("a PART: PIECES with an & between two, all of which must");
        is("all", holds("1=1&2=2&3=3"), true);
        is("not the first", holds("1=0&2=2&3=3"), false);
        is("not the last", holds("1=1&2=2&3=0"), false);
        is("& ahead of |", holds("1=1|1=0&1=0"), true);
        is("& ahead of |, behind it", holds("1=0&1=0|1=1"), true);
        says("a PIECE: !PIECE, (C), or E, one of < > =, and E");
        is("!", holds("!1=0"), true);
        is("!!", holds("!!1=0"), false);
        is("! of each sign", holds("!1<2") || holds("!2>1") || holds("!1=1"), false);
        is("! ends with its piece", holds("!1=0&1=1"), true);
        is("! of the first alone", holds("!1=1|1=1"), true);
        is("(C)", holds("(1=0|1=1)&1=1"), true);
        is("!(C)", holds("!(1=0|1=1)|1=0"), false);
        is("<", holds("1<2") && !holds("2<2") && !holds("3<2"), true);
        is(">", holds("3>2") && !holds("2>2") && !holds("1>2"), true);
        is("=", holds("2=2") && !holds("1=2") && !holds("3=2"), true);
        is("two of them", law(new BorderTable(), "p(1<2<3)"), -1005);
        says("E: TERMS with + or - between two");
        is("one", reckoned("7"), 7);
        is("from the left on", reckoned("9-4-3"), 2);
        is("from the left on", reckoned("9-4+3"), 8);
        is("no sign ahead", law(new BorderTable(), "w-1(1=1)"), -1001);
        says("a TERM: FACTORS with one of * / % between two; from the left on");
        is("/ *", reckoned("7/2*5"), 15);
        is("* /", reckoned("5*7/2"), 17);
        is("% *", reckoned("17%5*3"), 6);
        is("* %", reckoned("3*17%5"), 1);
        is("ahead of + and -", reckoned("20-2*3+8/4"), 16);
        says("a FACTOR: [E]");
        is("first", reckoned("[2+3]*4"), 20);
        is("in one another", reckoned("[[[1+1]*2]-[1]]*3"), 9);
        says("a number of one to five digits");
        is("one", reckoned("0") + reckoned("9"), 9);
        is("five", reckoned("99999-99998"), 1);
        is("zeros ahead", reckoned("00042"), 42);
        is("no digit", law(new BorderTable(), "w(1=1)"), -1001);
        is("six", law(new BorderTable(), "w000001(1=1)"), -2006);
    }

    private static void letters() {
        says("or a letter: f, g the GUESTS (from, to; in w f alone), a, b their LANDS, s, t their SEATS");
        BorderTable t = new BorderTable();
        t.guest(0, NONE);
        t.guest(1, 4);
        t.guest(0, NONE);
        t.guest(0, 5);
        t.liking(1, 3, 6);
        t.liking(3, 1, -7);
        int[] there = {1, 3, 1, 0, 4, 5, 6, -7, 0, 1};
        int[] back = {3, 1, 0, 1, 5, 4, -7, 6, 0, 1};
        for (int k = 0; k < 10; k++) {
            char letter = "fgabstlmdo".charAt(k);
            law(t, "v100+" + letter + "(1=1);h100-50+" + letter + "(1=1)");
            is(letter + " there", t.two(1, 3, 2), 100 + there[k]);
            is(letter + " back", t.two(3, 1, 2), 100 + back[k]);
            is(letter + " of a harm", t.two(3, 1, 1), 50 + there[k]);
        }
        says("l the LIKING of f for g, m that of g for f");
        law(t, "p(l>m)");
        is("likes more", t.two(1, 3, 0), 1);
        is("likes less", t.two(3, 1, 0), 0);
        says("d how far their PLACES are apart, o whether their SIDES are unlike (1, 0)");
        BorderTable u = at(0, 38, 39);
        law(u, "h10*o+d(1=1)");
        is("the farthest, of one side", u.two(0, 1, 1), 19);
        is("the farthest, of both", u.two(0, 2, 1), 29);
        is("across", u.two(1, 2, 1), 10);
        says("(In w g b t l m d o are 0.)");
        BorderTable v = at(1, 3);
        v.liking(0, 1, 9);
        v.liking(1, 0, 9);
        for (int k = 0; k < 10; k++) {
            char letter = "fgabstlmdo".charAt(k);
            law(v, "h1(1=1);w10+" + letter + "(1=1)");
            v.two(1, 0, 1);
            v.two(0, 1, 2);
            int due = letter == 'f' || letter == 'a' ? 1 : letter == 's' ? 7 : 0;
            is("" + letter, v.worth(1, 7), 10 + due);
        }
        for (int c = 0; c < 256; c++) {
            feed(v, 'p', '(', c, '=', '1', ')');
            boolean fits = c >= '0' && c <= '9' || "fgabstlmdo".indexOf(c) >= 0;
            is("byte " + c, v.law(6) == 1, fits);
        }
    }

    private static void numbers() {
        says("All is reckoned with 32 bits, as the machine does");
        is("the greatest and 1", holds("65536*32767+65535+1<0"), true);
        is("the greatest", holds("65536*32767+65535>0"), true);
        is("the least less 1", holds("0-65536*32767-65535-1-1>0"), true);
        is("the least", holds("0-65536*32767-65535-1=65536*32768"), true);
        is("a product past all bits", reckoned("65536*65536+5"), 5);
        is("a product", reckoned("99999*99999/20000/1000"), 70);
        is("the least by -1", holds("65536*32768/[0-1]=65536*32768"), true);
        is("the rest of the least by -1", holds("65536*32768%[0-1]=0"), true);
        is("towards 0", reckoned("[0-7]/2") * 100 + reckoned("7/[0-2]"), -303);
        is("the rest has the sign of the first", reckoned("[0-7]%4") * 100 + reckoned("7%[0-4]"), -297);
        says("what is divided by 0 is REFUSED: then the C as a whole does not hold");
        String[] refused = {"1/0=0", "1%0=0", "0/0=0", "1/[1-1]=0", "1/g=0", "1=1/0", "1=1&1/0=0", "1/0=0&1=1"};
        for (String c : refused) {
            is(c, holds(c), false);
        }
        is("it is refused for this one alone", holds("1/[s-7]=0") || !holds("1/[s-6]=1"), false);
        says("(through any !, ( ) and |)");
        String[] through = {"!1/0=0", "!!1/0=0", "!(1/0=0)", "!!(!1/0=0)", "1/0=0|1=1", "(1/0=0)|1=1", "1=0|1/0=0|1=1",
            "((1=1&1/0=0)|1=1)|1=1", "!(1=1&(1=0|1%0=0))|1=1", "[1/0]*0=0|1=1"};
        for (String c : through) {
            is(c, holds(c), false);
        }
        BorderTable t = at(0, 2);
        law(t, "p(1/0=0|1=1);p(f=1);w7(1/0=0|1=1);w8(s=5);h7(!1/0=0);h8(1=1);v7(1%0=0);v8(1=1)");
        is("another p may hold", t.two(0, 1, 0) * 10 + t.two(1, 0, 0), 1);
        is("another w", t.worth(0, 5) * 10 + t.worth(0, 0), 80);
        is("another h, another v", t.two(0, 1, 1) * 10 + t.two(0, 1, 2), 88);
        says("an E is 0");
        is("as a whole", reckoned("5+1/0") + reckoned("1/0+5") + reckoned("5%0"), 0);
        is("in [ ], too", reckoned("5+[1/0]"), 0);
        is("times 0, too", reckoned("5+0*[1/0]"), 0);
        law(t, "w5/[s-4](1=1);w9(1=1)");
        is("no other clause is asked then", t.worth(0, 4), 0);
        is("where it is not divided by 0", t.worth(0, 5), 5);
        says("Of a C as much is asked, from the left, as matters");
        String[] enough = {"1=1|1/0=0", "1=0&1/0=0|1=1", "!(1=0&1/0=0)", "(1=1|1/0=0)&1=1", "1=1|1=1&1/0=0",
            "1=0|1=1|1/0=0", "!(1=0&(1=1|1/0=0))", "1=1&(1=1|1/0=0)"};
        for (String c : enough) {
            is(c, holds(c), true);
        }
        is("no more is asked, but it does not hold", holds("1=0&1/0=0"), false);
    }

    static void all() {
        seats();
        guests();
        clauses();
        kinds();
        grammar();
        letters();
        numbers();
    }
}
