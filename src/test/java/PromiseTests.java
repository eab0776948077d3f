/** Each promise by itself, by answers found by hand: ordinary inputs, the edges that the document names, wrong ones. */
public final class PromiseTests extends Asking {
    private static void newObject() {
        due("1 NONE", BorderTable.NONE, -1);
        BorderTable t = new BorderTable();
        for (int k = 0; k <= 5; k++) {
            due("1 count(" + k + ")", t.count(k), 0);
        }
        due("1 X", t.count(6), 1);
        for (int g = 0; g < 16; g++) {
            due("1 seat of " + g, t.count(20 + g), NONE);
        }
        for (int s = 0; s < 40; s++) {
            due("1 knives at " + s, t.count(40 + s), 0);
        }
        due("1 sum", t.sum(), 0);
        due("1 strays", t.strays(), 0);
        due("1 wrong", t.wrong(), NONE);
        due("1 undo", t.undo(), false);
        due("1 another one has a state of its own", at(0, 1).count(0) + t.count(0), 2);
    }

    private static void guest() {
        BorderTable t = new BorderTable();
        due("2 first", t.guest(0, 39), 0);
        due("2 at none", t.guest(1, NONE), 1);
        due("2 another at none", t.guest(1, NONE), 2);
        due("2 taken", t.guest(1, 39), -2);
        due("2 land 2", t.guest(2, 0), NONE);
        due("2 land -1", t.guest(-1, 0), NONE);
        due("2 seat 40", t.guest(0, 40), NONE);
        due("2 seat -2", t.guest(0, -2), NONE);
        due("2 far seats", t.guest(0, MOST) + t.guest(0, LEAST), 2 * NONE);
        due("2 no such land ahead of taken", t.guest(2, 39), NONE);
        due("2 refused ones are none", t.count(0), 3);
        for (int g = 3; g < 16; g++) {
            due("2 guest " + g, t.guest(g % 2, g), g);
        }
        due("2 a 17th", t.guest(0, 20), NONE);
        due("2 a 17th, taken", t.guest(0, 39), NONE);
        due("2 seat of 0", t.count(20), 39);
        due("2 seat of 15", t.count(35), 15);
    }

    private static void liking() {
        BorderTable t = at(0, 2);
        law(t, "h10+l*3-m(1=1)");
        due("3 at first", t.two(0, 1, 1), 10);
        due("3 9", t.liking(0, 1, 9), true);
        due("3 of a for b", t.two(0, 1, 1), 37);
        due("3 -9", t.liking(1, 0, -9), true);
        due("3 both", t.two(0, 1, 1), 46);
        due("3 asked the other way round", t.two(1, 0, 1), 46);
        due("3 10", t.liking(0, 1, 10), false);
        due("3 -10", t.liking(0, 1, -10), false);
        due("3 itself", t.liking(1, 1, 1), false);
        due("3 no such", t.liking(0, 2, 1), false);
        due("3 no such either", t.liking(-1, 0, 1), false);
        due("3 far", t.liking(LEAST, MOST, 1), false);
        due("3 refused ones change nothing", t.two(0, 1, 1), 46);
        due("3 sum knows at once", t.sum(), 46);
        t.liking(0, 1, 0);
        due("3 sum knows again", t.sum(), 19);
        t.dies(1);
        due("3 a dead one is liked", t.liking(0, 1, 5), true);
        likedSince();
    }

    /** What was reckoned once must not be answered again after any number of likings. */
    private static void likedSince() {
        for (int first = 0; first < 20; first++) {
            for (int since = 1; since < 30; since++) {
                BorderTable t = at(0, 2);
                law(t, "h10+l(1=1)");
                for (int k = 0; k < first; k++) {
                    t.liking(0, 1, 1);
                }
                due("3 before", t.sum(), first == 0 ? 10 : 11);
                for (int k = 0; k < since; k++) {
                    t.liking(0, 1, k % 2 + 5);
                }
                due("3 " + since + " since " + first, t.sum(), 16 - since % 2);
            }
        }
    }

    private static void sit() {
        BorderTable t = at(0, 2, NONE);
        due("4 moves", t.sit(0, 4), true);
        due("4 is there", t.count(20), 4);
        due("4 the old one is empty", t.sit(2, 0), true);
        due("4 its own", t.sit(0, 4), false);
        due("4 taken", t.sit(0, 2), false);
        due("4 gets up", t.sit(0, NONE), true);
        due("4 is up", t.count(20), NONE);
        due("4 gets up again", t.sit(0, NONE), true);
        due("4 40", t.sit(0, 40), false);
        due("4 -2", t.sit(0, -2), false);
        due("4 far", t.sit(0, LEAST) || t.sit(0, MOST), false);
        due("4 no such", t.sit(3, 5), false);
        due("4 no such", t.sit(-1, 5), false);
        t.dies(1);
        due("4 dead", t.sit(1, 5), false);
        due("4 dead gets up", t.sit(1, NONE), false);
        due("4 the dead one's seat", t.sit(0, 2), true);
    }

    private static void feed() {
        BorderTable t = new BorderTable();
        for (int k = 1; k <= 11; k++) {
            due("5 feed " + k, t.feed(k, 0, 0, 0, 0), 20 * k);
        }
        due("5 full", t.feed(1, 2, 3, 4, 5), NONE);
        due("5 bytes", t.count(2), 220);
        due("5 highest first", t.law(4), -1000);
        t.feed(0x70303D30, 0, 0, 0, 0);
        due("5 next place", t.law(3), -1001);
        t.feed(0x70283D30, 0, 0, 0, 0);
        due("5 next place", t.law(3), -1002);
        t.feed(0x70282130, 0x3D302920, 0, 0, 0);
        due("5 words in their order", t.law(7), 1);
        t.feed(0x70282130, 0x3D302920, 0, 0, 0);
        due("5 the eighth byte", t.law(8), -1007);
        t.feed('a', 'a', 'a', 'a', 0x61617031);
        t.feed(0, 0, 0, 0, 0);
        due("5 behind one another", t.count(2), 40);
    }

    private static void lawTape() {
        BorderTable t = new BorderTable();
        feed(t, 'p', '(', '1', '=', '1', ')');
        due("6 0", t.law(0), NONE);
        due("6 -1", t.law(-1), NONE);
        due("6 has not so many", t.law(21), NONE);
        due("6 far", t.law(MOST) + t.law(LEAST), 2 * NONE);
        due("6 the tape stays", t.count(2), 20);
        due("6 p", t.law(6), 1);
        due("6 empty then", t.count(2), 0);
        due("6 clauses", t.count(1), 1);
        due("6 a fault", law(t, "w1(1=1);h"), -1009);
        due("6 empty then, too", t.count(2), 0);
        due("6 the law before stays", t.count(1), 1);
        due("6 three", law(t, "w1(1=1);h2(1=1);v3(1=1)"), 3);
        due("6 in its place", t.count(1), 3);
        StringBuilder s = new StringBuilder("p(00=00");
        for (int k = 0; k < 48; k++) {
            s.append("&f=f");
        }
        due("6 200 bytes", law(t, s + ")"), 1);
        for (int k = 0; k < 11; k++) {
            t.feed(0, 0, 0, 0, 0);
        }
        due("6 201", t.law(201), NONE);
        due("6 the tape stays", t.count(2), 220);
        due("6 200", t.law(200), -1000);
    }

    private static void lawFaults() {
        BorderTable t = new BorderTable();
        String[] one = {"x", "P(1=1)", "p", "p(", "p1(1=1)", "w(1=1)", "w1", "w1(", "w1(1=1", "w1(1=1)x",
            "w1(1=1);", "w1(1=1);;", "p()", "p(1)", "p(1=)", "p(1=1&)", "p(1=1|)", "p(!)", "p(=1)", "p(1==1)",
            "p(1=1=1)", "p((1)=1)", "p([1=1])", "p([1)=1)", "p([]=1)", "p(-1=1)", "p(1+=1)", "p(1=1)p", "p(1a=1)",
            "p(a1=1)", "p(ab=1)", "p(c=1)", "p(1 =1)", "p(1=1])", "w[1(1=1)", "w1](1=1)", "h!1(1=1)", "p((1=1)",
            "p((1=1)&(1=1)=1)", "p(1=1))", "w1=1(1=1)", "p(!1)", "p(1=!1)", "p(1=(1))", "p(p=1)", "w1+(1=1)",
            "p(1=1);x(1=1)", "p(1=1)|p(1=1)"};
        int[] places = {0, 0, 1, 2, 1, 1, 2, 3, 6, 7, 8, 8, 2, 3, 4, 6, 6, 3, 2, 4, 5, 4, 4, 4, 3, 2, 4, 6, 3, 3, 3, 2,
            3, 5, 3, 2, 1, 7, 13, 6, 2, 4, 4, 4, 2, 3, 7, 6};
        due("6 faults and places", one.length, places.length);
        for (int k = 0; k < one.length; k++) {
            due("6 " + one[k], law(t, one[k]), -1000 - places[k]);
        }
        feed(t, 'p', '(', 233, '=', '1', ')');
        due("6 a byte of 233", t.law(6), -1002);
        feed(t, 0, '(', '1', '=', '1', ')');
        due("6 a byte of 0", t.law(6), -1000);
        due("6 five digits", law(t, "w99999(00000=0)"), 1);
        due("6 a sixth digit", law(t, "w999999(0=0)"), -2006);
        due("6 a sixth digit of more", law(t, "p(1=0000001)"), -2009);
        due("6 a sixth digit ahead of an end", law(t, "w123456"), -2006);
        due("6 what can't stand there is first", law(t, "w1+(123456"), -1003);
    }

    private static void lawLimits() {
        BorderTable t = new BorderTable();
        StringBuilder s = new StringBuilder();
        for (int k = 0; k < 14; k++) {
            s.append(k == 0 ? "" : ";").append("p(1=1)");
        }
        due("6 14 clauses", law(t, s.toString()), 14);
        due("6 a 15th", law(t, s + ";p(1=1)"), -4098);
        due("6 a 15th's letter is enough", law(t, s + ";v"), -4098);
        due("6 can't stand there", law(t, s + ";x"), -1098);
        due("6 the end", law(t, s + ";"), -1098);
        due("6 14 stay", t.count(1), 14);
        due("6 six open", law(t, "p((((((1=1))))))"), 1);
        due("6 a seventh (", law(t, "p(((((((1=1)))))))"), -5007);
        due("6 six open, [", law(t, "p([[[[[1]]]]]=1)"), 1);
        due("6 a seventh [", law(t, "p([[[[[[1]]]]]]=1)"), -5007);
        due("6 six open, !", law(t, "p(!!!!!1=1)"), 1);
        due("6 a seventh !", law(t, "p(!!!!!!1=1)"), -5007);
        due("6 ( in !", law(t, "p(!!!!!(1=1))"), -5007);
        due("6 [ in !", law(t, "p(!!!!![1]=1)"), -5007);
        due("6 [ in ! behind the sign", law(t, "p(!!!!!1=[1])"), -5009);
        due("6 a ! ends with its piece", law(t, "p(!!!!!1=1&!!!!!1=1|!!!!!1=1&[[[[[1]]]]]=1)"), 1);
        due("6 a ! ends with its (C)", law(t, "p(!(!(!1=1)|!(!1=2))&(((((1=1))))))"), 1);
        due("6 E stands ahead", law(t, "w[[[[[[1]]]]]]((((((1=1))))))"), 1);
        due("6 a seventh in E", law(t, "w[[[[[[[1]]]]]]](1=1)"), -5007);
        due("6 one behind the other", law(t, "w[1]+[1]+[1]+[1]+[1]+[1]+[1](1=1)"), 1);
        due("6 can't stand there is not a seventh", law(t, "p((((((1(1=1)"), -1008);
    }

    /** What an E comes to, asked as the worth of guest 3 of land 1 at seat 7. */
    private static int reckoned(String e) {
        BorderTable t = at(0, 2, 4, 1);
        law(t, "w" + e + "(1=1)");
        return t.worth(3, 7);
    }

    private static void lawReckons() {
        due("6 from the left on", reckoned("9-4-3"), 2);
        due("6 terms first", reckoned("2+3*4"), 14);
        due("6 [ ]", reckoned("[2+3]*4"), 20);
        due("6 factors from the left", reckoned("7*5/2"), 17);
        due("6 factors from the left", reckoned("7/2*5"), 15);
        due("6 rest", reckoned("17%5*3"), 6);
        due("6 towards 0", reckoned("[0-7]/2"), -3);
        due("6 rest below 0", reckoned("[0-7]%2"), -1);
        due("6 32 bits", reckoned("99999*99999/20000/1000"), 70);
        due("6 32 bits, over", reckoned("65536*32768/32768/1000"), -65);
        due("6 least by -1", reckoned("65536*32768/[0-1]/32768/1000"), -65);
        due("6 rest of least by -1", reckoned("65536*32768%[0-1]"), 0);
        due("6 zeros ahead", reckoned("00042"), 42);
        due("6 f a s in w", reckoned("f*10+a*40+s"), 77);
        due("6 g b t l m d o in w", reckoned("g+b+t+l+m+d+o"), 0);
        due("6 by 0", reckoned("5+1/0"), 0);
        due("6 rest by 0", reckoned("5+1%g"), 0);
        due("6 by 0 in [ ]", reckoned("5+[1/[1-1]]"), 0);
        due("6 no stop at a product with 0", reckoned("5+0*[1/0]"), 0);
    }

    /** Whether a C holds, asked as a worth. */
    private static boolean holds(String c) {
        BorderTable t = at(0, 2, 4, 1);
        law(t, "w1(" + c + ")");
        return t.worth(3, 7) == 1;
    }

    private static void lawHolds() {
        String[] yes = {"1<2", "2>1", "1=1", "!1<1", "!!1=1", "1=0|1=1", "1=1&2=2", "1=1|1=0&1=0", "1=0&1=0|1=1",
            "(1=1|1=0)&1=1", "!(1=0|1=0)", "!1=0&1=1", "!1=1|1=1", "1+1=2&2*3>5", "1=1|1/0=1", "1=0&1/0=1|1=1",
            "!(1=0&1/0=1)", "(1=1|1/0=0)&1=1", "1=0|(1=1|1%0=0)", "0-1<0"};
        for (String c : yes) {
            due("6 holds: " + c, holds(c), true);
        }
        String[] no = {"2<1", "1<1", "1>1", "1=2", "!1=1", "1=0|1=0", "1=1&1=0", "(1=1|1=1)&1=0", "1/0=1", "!1/0=1",
            "!!1/0=1", "1/0=1|1=1", "1=0|1%0=1|1=1", "(1/0=1)|1=1", "!(1/0=1|1=1)", "1=1&1/0=1|1=1", "1=[1/0]*0|1=1",
            "1=1&(1=0|!(1=1&1/0=0))|1=1", "1=1&1/0=0"};
        for (String c : no) {
            due("6 does not hold: " + c, holds(c), false);
        }
        BorderTable t = at(0, 1);
        due("6 a p refused, another holds", law(t, "p(1/0=1);p(1=1)"), 2);
        due("6 some C", t.two(0, 1, 0), 1);
        law(t, "p(1/0=1);p(1=0);w5(1=1)");
        due("6 no C", t.two(0, 1, 0), 0);
        law(t, "w5(1=1)");
        due("6 no p", t.two(0, 1, 0), 1);
        law(t, "w1/0(1=1);w7(1=1)");
        due("6 the first whose C holds, refused", t.worth(0, 0), 0);
        law(t, "h1(1=1);w1(1/0=1);w8(s=2);w7(1=1)");
        due("6 a C refused, the next", t.worth(0, 0), 7);
        due("6 the first that holds", t.worth(0, 2), 8);
    }

    private static void two() {
        BorderTable t = at(4, 6, 5, 8, NONE);
        due("7 beside", t.two(0, 1, 0), 1);
        due("7 before", t.two(1, 0, 0), 1);
        due("7 across", t.two(0, 2, 0), 1);
        due("7 aslant", t.two(1, 2, 0), -2);
        due("7 two places", t.two(0, 3, 0), -2);
        due("7 no law", t.two(0, 3, 1) + t.two(0, 1, 2), 0);
        due("7 v aslant", t.two(1, 2, 2), -2);
        due("7 one is up", t.two(0, 4, 1), -2);
        due("7 the other is up", t.two(4, 0, 0), -2);
        due("7 itself", t.two(0, 0, 1), NONE);
        due("7 no such", t.two(0, 5, 1), NONE);
        due("7 no such", t.two(-1, 0, 1), NONE);
        due("7 no such what", t.two(0, 1, 3), NONE);
        due("7 no such what", t.two(0, 1, -1), NONE);
        due("7 no such what ahead of up", t.two(0, 4, 3), NONE);
        due("7 far", t.two(MOST, LEAST, MOST), NONE);
        t.liking(0, 2, 3);
        t.liking(2, 0, -2);
        law(t, "p(f=0&g=2&a=0&b=1&s=4&t=5&l=3&m=0-2&d=0&o=1)");
        due("7 all letters", t.two(0, 2, 0), 1);
        due("7 the other way", t.two(2, 0, 0), 0);
        law(t, "p(f=2&g=0&a=1&b=0&s=5&t=4&l=0-2&m=3&d=0&o=1)");
        due("7 all letters, back", t.two(2, 0, 0), 1);
        law(t, "h50+g*10-f+[t-s]*2+l-m+o+d(1=1)");
        due("7 harm", t.two(0, 2, 1), 78);
        due("7 harm, lower first", t.two(2, 0, 1), 78);
        due("7 harm far away", t.two(0, 3, 1), 90);
        law(t, "h100(f=0&g=1);h0-1(1=1)");
        due("7 at most 99", t.two(0, 1, 1), 99);
        due("7 at least 0", t.two(0, 2, 1), 0);
        law(t, "v1001(t>s&d=1);v0-1(d=1);vs(1=1)");
        due("7 v at most 1000", t.two(0, 1, 2), 1000);
        due("7 v at least 0", t.two(1, 0, 2), 0);
        due("7 v of a passing", t.two(2, 0, 2), 5);
        due("7 next round the end", at(0, 38, 1, 39).two(0, 1, 0), -2);
    }

    private static void worth() {
        BorderTable t = at(0, 1, NONE);
        due("8 no law", t.worth(0, 0), 0);
        law(t, "w99+s*10(f=1);w0-100(s=0);w0-s(1=1)");
        due("8 at most 99", t.worth(1, 20), 99);
        due("8 at least -99", t.worth(0, 0), -99);
        due("8 whether it does or not", t.worth(0, 39), -39);
        due("8 who is up", t.worth(2, 7), -7);
        due("8 no such", t.worth(3, 0), -1000);
        due("8 no such", t.worth(-1, 0), -1000);
        due("8 no such seat", t.worth(0, 40), -1000);
        due("8 no such seat", t.worth(0, NONE), -1000);
        due("8 far", t.worth(MOST, LEAST), -1000);
        law(t, "w1(1=1)");
        due("8 another law", t.worth(0, 39), 1);
        t.dies(2);
        due("8 a dead one is a guest", t.worth(2, 7), 1);
    }

    private static void rain() {
        BorderTable t = at(0, 2, 4);
        due("9 1000", t.rain(1000, 0, 0), NONE);
        due("9 -1", t.rain(-1, 0, 0), NONE);
        due("9 from -1", t.rain(0, -1, 0), NONE);
        due("9 to 20", t.rain(0, 0, 20), NONE);
        due("9 to ahead of from", t.rain(0, 3, 2), NONE);
        due("9 far", t.rain(LEAST, LEAST, MOST), NONE);
        due("9 none yet", t.count(3), 0);
        due("9 999", t.rain(999, 0, 19), 1);
        due("9 first minute", t.rain(3, 1, 1), 2);
        due("9 dry at 1, 2", t.soonest(0, 2, 1), 3);
        due("9 wet when it would go on", t.soonest(0, 2, 2), -2);
        due("9 it gets it just then", t.soonest(0, 1, 2), 3);
        due("9 wet when it would get it", t.soonest(0, 1, 3), -2);
        due("9 plates go through the rain", t.gives(1, 5) + t.passes(1, 0, 2), 8);
        for (int k = 3; k <= 10; k++) {
            due("9 rain " + k, t.rain(500, k, k + 1), k);
        }
        due("9 an eleventh", t.rain(0, 0, 0), NONE);
        due("9 ten", t.count(3), 10);
        BorderTable u = at(8, 10, 12, 9);
        u.rain(0, 5, 5);
        due("9 not at its end", u.soonest(0, 3, 0), 1);
        due("9 at its place", u.soonest(0, 1, 0), -2);
        due("9 who has it in the rain", u.soonest(1, 0, 0), -2);
    }

    private static void soonest() {
        BorderTable t = at(0, 2, 3, 5, NONE, 4, 30);
        due("10 itself", t.soonest(0, 0, 99), 99);
        due("10 next", t.soonest(0, 1, 99), 100);
        due("10 both ways are tried", t.soonest(0, 3, 10), 13);
        due("10 never", t.soonest(0, 6, 0), -2);
        due("10 up", t.soonest(0, 4, 0), NONE);
        due("10 up", t.soonest(4, 0, 0), NONE);
        due("10 up, itself", t.soonest(4, 4, 0), NONE);
        due("10 100", t.soonest(0, 1, 100), NONE);
        due("10 -1", t.soonest(0, 1, -1), NONE);
        due("10 no such", t.soonest(0, 7, 0), NONE);
        due("10 no such", t.soonest(-1, 0, 0), NONE);
        due("10 far", t.soonest(MOST, LEAST, MOST), NONE);
        law(t, "p(!(f=1&g=5)&!(f=5&g=1))");
        due("10 by the law", t.soonest(0, 5, 0), 4);
        law(t, "p(f<g)");
        due("10 one way alone", t.soonest(0, 3, 0), 3);
        due("10 not back", t.soonest(3, 0, 0), -2);
        BorderTable u = at(0, 2, 4, 6, 1, 3, 5, 7);
        u.rain(2, 2, 2);
        due("10 a short way through", u.soonest(0, 3, 0), -2);
        due("10 at one's last dry minute", u.soonest(0, 2, 0), 2);
        due("10 sixteen in a row", row(16).soonest(0, 15, 99), 114);
    }

    private static void rumour() {
        BorderTable t = at(2, 0, 4, 3, 1, 5, NONE, 38);
        due("11 how many", t.rumour(0, 10, NONE), 6);
        due("11 the last minute", t.rumour(0, 10, 20), 12);
        due("11 itself", t.rumour(0, 10, 0), NONE);
        due("11 from whom", t.rumour(0, 10, 3), 0);
        due("11 the lowest of two", t.rumour(0, 10, 4), 1);
        due("11 the lowest of two", t.rumour(0, 10, 5), 2);
        due("11 far off", t.rumour(0, 10, 7), -2);
        due("11 up", t.rumour(0, 10, 6), -2);
        due("11 from one who is up", t.rumour(6, 10, NONE), -3);
        due("11 alone", t.rumour(7, 99, NONE), 1);
        due("11 alone, last minute", t.rumour(7, 99, 20), 99);
        due("11 100", t.rumour(0, 100, NONE), -3);
        due("11 -1", t.rumour(0, -1, NONE), -3);
        due("11 no such what", t.rumour(0, 0, 8), -3);
        due("11 no such what", t.rumour(0, 0, 16), -3);
        due("11 no such what", t.rumour(0, 0, 21), -3);
        due("11 no such what", t.rumour(0, 0, -2), -3);
        due("11 no such guest", t.rumour(8, 0, NONE), -3);
        due("11 no such guest", t.rumour(-1, 0, NONE), -3);
        due("11 far", t.rumour(MOST, LEAST, MOST), -3);
        law(t, "p(!g=4|f>2)");
        due("11 by the law", t.rumour(0, 0, 4), 3);
        t.rain(1, 1, 1);
        due("11 in the rain", t.rumour(0, 0, NONE), 5);
        due("11 in the rain from the first", t.rumour(0, 1, NONE), 1);
        t.dies(5);
        due("11 a dead one", t.rumour(0, 0, 5), -2);
    }

    private static void speech() {
        BorderTable t = new BorderTable();
        due("12 -1", t.speech(-1, 0, 1), NONE);
        due("12 20", t.speech(20, 0, 1), NONE);
        due("12 minute -1", t.speech(0, -1, 1), NONE);
        due("12 minute 1000", t.speech(0, 1000, 1), NONE);
        due("12 speed 0", t.speech(0, 0, 0), NONE);
        due("12 speed 6", t.speech(0, 0, 6), NONE);
        due("12 far", t.speech(MOST, MOST, MOST), NONE);
        due("12 none yet", t.count(4), 0);
        for (int k = 1; k <= 10; k++) {
            due("12 speech " + k, t.speech(19, 999, 1 + k % 5), k);
        }
        due("12 an eleventh", t.speech(0, 0, 1), NONE);
        due("12 ten", t.count(4), 10);
    }

    private static void heard() {
        BorderTable t = new BorderTable();
        t.speech(10, 5, 2);
        due("13 before", t.heard(20, 4), 0);
        due("13 at once", t.heard(20, 5), 1);
        due("13 at both sides of the table", t.heard(21, 5), 1);
        due("13 not beside", t.heard(22, 5), 0);
        due("13 two places", t.heard(24, 6), 1);
        due("13 two places back", t.heard(17, 6), 1);
        due("13 three places", t.heard(26, 6), 0);
        due("13 three places back", t.heard(14, 6), 0);
        due("13 the end", t.heard(0, 9), 0);
        due("13 the end", t.heard(0, 10), 1);
        due("13 the other end", t.heard(39, 10), 1);
        t.speech(0, 0, 5);
        t.speech(19, 999, 1);
        due("13 two of three", t.heard(0, 999), 3);
        due("13 all", t.heard(38, 999), 7);
        due("13 second alone", t.heard(10, 1), 2);
        due("13 no such seat", t.heard(40, 0), NONE);
        due("13 no such seat", t.heard(-1, 0), NONE);
        due("13 no such minute", t.heard(0, 1000), NONE);
        due("13 no such minute", t.heard(0, -1), NONE);
        due("13 far", t.heard(LEAST, MOST), NONE);
    }

    private static void way(String what, BorderTable t, int a, int b, long... due) {
        for (int k = 0; k < 3; k++) {
            due("14 " + what + ", " + k, t.smuggled(a, b, k), due[k]);
        }
        for (int k = 0; k < 7; k++) {
            due("14 " + what + ", " + (10 + k), t.smuggled(a, b, 10 + k), 3 + k < due.length ? due[3 + k] : -1);
        }
    }

    private static void smuggled() {
        BorderTable t = at(0, 2, 4, 1, 3, 5, NONE, 38);
        way("no v", t, 0, 5, 1, 1, 3, 0, 1, 2, 5);
        way("no way", t, 0, 7, -2, -2, -2, -2, -2, -2, -2, -2, -2, -2);
        due("14 itself", t.smuggled(0, 0, 0), -1);
        due("14 up", t.smuggled(0, 6, 0), -1);
        due("14 up", t.smuggled(6, 0, 0), -1);
        due("14 no such", t.smuggled(0, 8, 0), -1);
        due("14 no such", t.smuggled(-1, 0, 0), -1);
        for (int what : new int[] {-1, 3, 9, 17, MOST, LEAST}) {
            due("14 no such what " + what, t.smuggled(0, 1, what), -1);
            due("14 no such what ahead of no way", t.smuggled(0, 7, what), -1);
        }
        law(t, "p(1=0);v500(f=0&g=1);v100(1=1)");
        t.rain(0, 0, 19);
        way("round", t, 0, 1, 729, 1000, 3, 0, 3, 4, 1);
        law(t, "v271(f=0&g=1);v100(1=1)");
        way("of like ones the shorter", t, 0, 1, 729, 1000, 1, 0, 1);
        law(t, "v272(f=0&g=1);v100(1=1)");
        way("of unlike ones the better", t, 0, 1, 729, 1000, 3, 0, 3, 4, 1);
        law(t, "v1000(g=5);v100(1=1)");
        way("surely seen", t, 0, 5, 0, 1, 3, 0, 1, 2, 5);
        law(t, "v999(1=1)");
        due("14 least odds above", row(7).smuggled(0, 6, 0), 1);
        BorderTable u = row(9);
        law(u, "v999(1=1)");
        way("six passings", u, 0, 6, 1, 1000000000000000000L, 6, 0, 1, 2, 3, 4, 5, 6);
        way("seven passings", u, 0, 7, -2, -2, -2, -2, -2, -2, -2, -2, -2, -2);
        way("back", u, 8, 6, 1, 1000000, 2, 8, 7, 6);
        BorderTable w = at(2, 0, 4, 1, 5, 3);
        law(w, "v1(d=1|d=0);v2(1=1)");
        way("the least row", w, 1, 5, 998001, 1000000, 2, 1, 0, 5);
    }

    private static void sum() {
        BorderTable t = at(0, 4, 5, 6, NONE);
        due("15 no law", t.sum(), 0);
        law(t, "h1+f*10+g(1=1)");
        due("15 not more than 2 apart", t.sum(), 2 + 3 + 13 + 14 + 24);
        law(t, "h1+f*10+g(1=1);w7(f<2);w0-50(f=3);w99(f=4)");
        due("15 less worths", t.sum(), 56 - 7 - 7 + 50);
        t.sit(4, 1);
        due("15 one more", t.sum(), 92 - 99 + 5 + 15 + 25);
        t.dies(1);
        due("15 one less", t.sum(), 3 - 7 + 5 + 25 + 24 + 50 - 99);
    }

    private static void seating() {
        BorderTable t = at(0, 2, 4, NONE, 39);
        t.dies(4);
        law(t, "h10(f=0&g=1&d=1);h3(1=1);w9(f=2&s=10);w1(f=3)");
        due("16 sum", t.sum(), 16);
        feed(t, 12, 10, 14);
        due("16 the sum then", t.seating(7, 3, NONE), 16 - 9);
        due("16 empty then", t.count(2), 0);
        due("16 they sit as before", t.count(20) + t.count(21) + t.count(22), 6);
        for (int g = 0; g < 3; g++) {
            feed(t, 14, 12, 10);
            due("16 not the seats' order, seat of " + g, t.seating(7, 3, g), new int[] {12, 14, 10}[g]);
        }
        feed(t, 12, 10, 14);
        due("16 no such guest", t.seating(1 << 5 | 3, 3, NONE), -1000000);
        due("16 not n", t.seating(7, 2, NONE), -1000000);
        due("16 none", t.seating(0, 0, NONE), -1000000);
        due("16 what is none of them", t.seating(7, 3, 3), -1000000);
        due("16 no such what", t.seating(7, 3, -2) + t.seating(7, 3, 17), -2000000);
        due("16 all bits", t.seating(-1, 32, NONE), -1000000);
        due("16 the highest bit", t.seating(LEAST, 1, NONE), -1000000);
        due("16 far", t.seating(MOST, LEAST, MOST), -1000000);
        due("16 the tape stays", t.count(2), 20);
        due("16 a dead one", t.seating(1 << 4, 1, NONE), -999999);
        due("16 empty then", t.count(2), 0);
        due("16 has none", t.seating(1, 1, NONE), -1000000);
        feed(t, 12, 12);
        due("16 a seat twice", t.seating(3, 2, NONE), -999999);
        feed(t, 12, 4);
        due("16 somebody else's", t.seating(3, 2, NONE), -999999);
        feed(t, 12, 40);
        due("16 no such seat", t.seating(3, 2, NONE), -999999);
        feed(t, 255, 12);
        due("16 no such seat", t.seating(3, 2, 16), -999999);
        feed(t, 2, 0);
        due("16 their own seats, do it", t.seating(3, 2, 16), 16);
        due("16 of like ones the least row", t.count(20) * 100 + t.count(21), 2);
        feed(t, 20);
        due("16 one who is up", t.seating(8, 1, 16), 15);
        due("16 sits", t.count(23), 20);
        due("16 sum then", t.sum(), 15);
        feed(t, 30, 2, 4);
        due("16 exchanging seats", t.seating(6 | 8, 3, 16), 8);
        due("16 all others stay", t.count(20), 0);
        due("16 of like ones the least row", t.count(21) * 10000 + t.count(22) * 100 + t.count(23), 40230);
        due("16 sum then", t.sum(), 8);
    }

    private static void seatingSeven() {
        BorderTable t = row(8);
        // each wants its number counted back from 20; near ones do one another no harm
        law(t, "w50-[s-2*[20-f]]*[s-2*[20-f]](1=1)");
        feed(t, 28, 30, 32, 34, 36, 38, 26);
        due("16 seven", t.seating(254, 7, 16), -7 * 50 + 99);
        for (int g = 1; g < 8; g++) {
            due("16 seven, seat of " + g, t.count(20 + g), 40 - 2 * g);
        }
        BorderTable u = row(9);
        feed(u, 28, 30, 32, 34, 36, 38, 26, 24);
        due("16 eight", u.seating(255, 8, NONE), -1000000);
    }

    private static void exchange() {
        BorderTable t = at(0, 2, NONE);
        due("17 none", t.exchange(0), -2);
        due("17 none", t.exchange(1), -2);
        due("17 none: the sum now", t.exchange(2), 0);
        due("17 no such", t.exchange(3), -1000000);
        due("17 no such", t.exchange(-1), -1000000);
        law(t, "w5(f=0&s=2);w3(f=1&s=0);w8(f=1&s=7)");
        due("17 of like ones the lowest guest", t.exchange(0), 0);
        due("17 two guests", t.exchange(1), 2);
        due("17 the sum then", t.exchange(2), -8);
        due("17 not done", t.count(20), 0);
        law(t, "w5(f=0&s=2);w3(f=1&s=0);w9(f=1&s=7|f=2)");
        due("17 the other guest", t.exchange(0), 1);
        due("17 an empty seat", t.exchange(1), 7);
        due("17 the sum then", t.exchange(2), -9);
        law(t, "h40(1=1)");
        due("17 away", t.exchange(0), 0);
        due("17 the lowest seat far enough", t.exchange(1), 8);
        due("17 the sum then", t.exchange(2), 0);
        law(t, "w9(f=1&s=39|f=0&s=39)");
        due("17 the lowest guest", t.exchange(0) * 100 + t.exchange(1), 39);
        law(t, "w0-9(1=1)");
        due("17 no better one", t.exchange(0), -2);
        due("17 the sum now", t.exchange(2), 18);
        BorderTable u = at(0, 4, 2);
        law(u, "h50(f=0&s=4);h20(d<2)");
        due("17 a harm by who sits where", u.exchange(2), 0);
    }

    private static void exchanges() {
        BorderTable t = at(0, 2, 4);
        due("18 none", t.exchanges(), 0);
        law(t, "h40(1=1)");
        due("18 two", t.exchanges(), 2);
        due("18 done", t.sum(), 0);
        due("18 where the first went", t.count(20), 10);
        due("18 where the second went", t.count(21), 16);
        due("18 where the third is", t.count(22), 4);
        due("18 none is left", t.exchanges(), 0);
        BorderTable u = row(16);
        law(u, "w[s+f*7]%41(1=1);h[f*3+g*5+s+t]%20(1=1)");
        Model m = new Model();
        for (int g = 0; g < 16; g++) {
            m.guest(0, 2 * g);
        }
        String text = "w[s+f*7]%41(1=1);h[f*3+g*5+s+t]%20(1=1)";
        text.chars().forEach(m.tape::add);
        m.law(text.length());
        due("18 many", u.exchanges(), m.exchanges());
        due("18 many, the sum", u.sum(), m.sum());
    }

    private static void exchangesMost() {
        BorderTable t = fiftyTwo();
        t.keep();
        int steps = 0;
        while (steps < 100 && t.exchange(0) >= 0) {
            exchangeOnce(t);
            steps++;
        }
        due("18 one by one", steps, 52);
        int least = t.sum();
        t.undo();
        due("18 fifty at most", t.exchanges(), 50);
        due("18 not yet least", t.sum() > least, true);
        due("18 the rest", t.exchanges(), 2);
        due("18 least", t.sum(), least);
    }

    private static void exchangeOnce(BorderTable t) {
        int g = t.exchange(0);
        int seat = t.exchange(1);
        int from = t.count(20 + g);
        for (int h = 0; h < 16; h++) {
            if (t.count(20 + h) == seat) {
                t.sit(g, NONE);
                t.sit(h, from);
            }
        }
        t.sit(g, seat);
    }

    private static void strays() {
        BorderTable t = new BorderTable();
        t.guest(0, 0);
        t.guest(1, 2);
        t.guest(0, 1);
        t.guest(1, 3);
        t.guest(1, NONE);
        due("19 bits", t.strays(), 6);
        t.sit(4, 38);
        due("19 one more", t.strays(), 22);
        t.dies(2);
        due("19 one less", t.strays(), 18);
    }

    private static void home() {
        BorderTable t = new BorderTable();
        due("20 nobody", t.home(), 0);
        for (int g = 0; g < 5; g++) {
            t.guest(0, 2 * g + 1);
            due("20 one side", t.home(), g + 1);
        }
        t.guest(1, 0);
        due("20 two at once", t.home(), 5);
        for (int g = 1; g < 7; g++) {
            t.guest(1, 2 * g);
        }
        due("20 the other side has more", t.home(), 7);
        t.guest(0, 30);
        t.guest(0, NONE);
        due("20 who is at home or up", t.home(), 7);
        due("20 not done", t.count(20), 1);
    }

    private static void heir() {
        BorderTable t = at(0, NONE, NONE);
        due("21 an heir", t.heir(0, 1), true);
        due("21 another one", t.heir(0, 2), true);
        due("21 gets it", t.dies(0), 2);
        BorderTable u = at(0, NONE);
        u.heir(0, 1);
        due("21 none", u.heir(0, NONE), true);
        due("21 nobody gets it", u.dies(0), -2);
        due("21 itself", u.heir(1, 1), false);
        due("21 no such", u.heir(2, 0), false);
        due("21 no such", u.heir(1, 2), false);
        due("21 no such", u.heir(-1, 0), false);
        due("21 no such", u.heir(1, -2), false);
        due("21 far", u.heir(MOST, LEAST), false);
        due("21 a dead one", u.heir(1, 0), true);
        due("21 of a dead one", u.heir(0, 1), true);
    }

    private static void dies() {
        BorderTable t = at(0, 2, NONE, NONE, 4);
        t.heir(0, 1);
        t.heir(1, 2);
        t.heir(2, 3);
        due("22 the heir's heir", t.dies(0), 2);
        due("22 dead", t.count(20), -2);
        due("22 sits there", t.count(22), 0);
        due("22 again", t.dies(0), NONE);
        due("22 no such", t.dies(5), NONE);
        due("22 no such", t.dies(-1), NONE);
        due("22 far", t.dies(MOST), NONE);
        due("22 past one who sits", t.dies(1), 3);
        due("22 sits there", t.count(23), 2);
        t.heir(4, 0);
        due("22 past dead ones, all sit", t.dies(4), -2);
        due("22 empty then", t.guest(0, 4), 5);
        BorderTable u = at(NONE, NONE);
        u.heir(0, 1);
        due("22 one who is up leaves nothing", u.dies(0), -2);
        due("22 the heir is up", u.count(21), NONE);
        BorderTable v = at(0, 2, 4);
        v.heir(0, 1);
        v.heir(1, 2);
        v.heir(2, 0);
        due("22 in a ring", v.dies(0), -2);
        due("22 not itself", v.count(20), -2);
        BorderTable w = new BorderTable();
        for (int g = 0; g < 16; g++) {
            w.guest(0, g == 15 ? NONE : g);
            w.heir(g - 1, g);
        }
        due("22 the fifteenth", w.dies(0), 15);
        due("22 its seat", w.count(35), 0);
    }

    private static void knives() {
        BorderTable t = new BorderTable();
        due("23 9", t.knives(39, 9), true);
        due("23 there", t.count(79), 9);
        due("23 0", t.knives(39, 0), true);
        due("23 there", t.count(79), 0);
        due("23 10", t.knives(0, 10), false);
        due("23 -1", t.knives(0, -1), false);
        due("23 no such seat", t.knives(40, 1), false);
        due("23 no such seat", t.knives(-1, 1), false);
        due("23 far", t.knives(LEAST, MOST), false);
        due("23 nothing there", t.count(40), 0);
    }

    private static void put() {
        BorderTable t = new BorderTable();
        t.knives(0, 5);
        due("24 all", t.put(0, 39, 5), true);
        due("24 there", t.count(79) * 10 + t.count(40), 50);
        due("24 none", t.put(0, 39, 1), false);
        due("24 0", t.put(39, 0, 0), false);
        due("24 -1", t.put(39, 0, -1), false);
        due("24 least", t.put(39, 0, LEAST), false);
        due("24 most", t.put(39, 0, MOST), false);
        due("24 the same", t.put(39, 39, 1), false);
        due("24 no such", t.put(39, 40, 1), false);
        due("24 no such", t.put(-1, 39, 1), false);
        for (int k = 0; k < 10; k++) {
            t.knives(0, 9);
            t.put(0, 2, 9);
        }
        t.knives(0, 9);
        due("24 99", t.put(0, 2, 9), true);
        due("24 there", t.count(42), 99);
        t.knives(0, 1);
        due("24 100", t.put(0, 2, 1), false);
        due("24 nothing is gone", t.count(40) * 100 + t.count(42), 199);
    }

    private static void counted() {
        BorderTable t = new BorderTable();
        due("25 side 2", t.counted(2, 0, 0, 0), NONE);
        due("25 side -1", t.counted(-1, 0, 0, 0), NONE);
        due("25 from -1", t.counted(0, -1, 0, 0), NONE);
        due("25 to 20", t.counted(0, 0, 20, 0), NONE);
        due("25 to ahead of from", t.counted(0, 5, 4, 0), NONE);
        due("25 -1", t.counted(0, 0, 0, -1), NONE);
        due("25 1000", t.counted(0, 0, 0, 1000), NONE);
        due("25 far", t.counted(MOST, LEAST, MOST, LEAST), NONE);
        due("25 none yet", t.count(5), 0);
        for (int k = 1; k <= 20; k++) {
            due("25 count " + k, t.counted(k % 2, 19 - k % 3, 19, 999 * (k % 2)), k);
        }
        due("25 a 21st", t.counted(0, 0, 0, 0), NONE);
        due("25 twenty", t.count(5), 20);
    }

    private static void missing() {
        BorderTable t = new BorderTable();
        for (int s = 0; s < 40; s++) {
            t.knives(s, s % 10);
        }
        t.counted(0, 0, 19, 60);
        t.counted(1, 0, 19, 999);
        t.counted(1, 3, 3, 0);
        t.counted(0, 18, 19, 14);
        due("26 more", t.missing(0), 20);
        due("26 fewer", t.missing(1), -899);
        due("26 one place", t.missing(2), 7);
        due("26 just so", t.missing(3), 0);
        t.put(7, 38, 7);
        due("26 as they lie now", t.missing(2) * 100 + t.missing(3), 7);
        due("26 no such", t.missing(4), -100000);
        due("26 no such", t.missing(-1), -100000);
        due("26 far", t.missing(LEAST), -100000);
    }

    private static void wrong() {
        BorderTable t = new BorderTable();
        t.knives(0, 3);
        t.knives(38, 4);
        t.knives(1, 9);
        t.counted(0, 0, 9, 7);
        due("27 may be", t.wrong(), NONE);
        t.counted(0, 10, 19, 1);
        due("27 with all of that side", t.wrong(), 1);
        t.knives(38, 5);
        due("27 as many as there are now", t.wrong(), NONE);
        t.counted(0, 0, 4, 9);
        due("27 seats below 0 are not asked", t.wrong(), NONE);
        t.counted(1, 0, 4, 8);
        t.counted(1, 5, 19, 1);
        due("27 the other side", t.wrong(), NONE);
        t.counted(0, 5, 19, 0);
        due("27 the first that does not fit", t.wrong(), 5);
        t.counted(0, 5, 9, 3);
        t.knives(38, 6);
        due("27 another first", t.wrong(), 1);
        BorderTable u = new BorderTable();
        u.counted(0, 2, 5, 4);
        u.counted(0, 4, 8, 5);
        u.counted(0, 2, 3, 1);
        u.counted(0, 6, 8, 2);
        due("27 by others' way", u.wrong(), NONE);
        u.counted(0, 4, 5, 2);
        due("27 by others' way, wrong", u.wrong(), 4);
        BorderTable v = new BorderTable();
        v.counted(1, 0, 19, 1);
        due("27 all of a side", v.wrong(), 0);
    }

    private static void gives() {
        BorderTable t = at(0, NONE);
        due("28 99", t.gives(0, 99), 99);
        due("28 1", t.gives(0, 1), 100);
        due("28 0", t.gives(0, 0), NONE);
        due("28 100", t.gives(0, 100), NONE);
        due("28 up", t.gives(1, 1), -2);
        due("28 no such n ahead of up", t.gives(1, 0), NONE);
        due("28 no such", t.gives(2, 1), NONE);
        due("28 no such", t.gives(-1, 1), NONE);
        due("28 far", t.gives(LEAST, MOST), NONE);
        for (int k = 0; k < 99; k++) {
            t.gives(0, 99);
        }
        due("28 9999", t.gives(0, 98), 9999);
        due("28 more", t.gives(0, 1), -2);
        due("28 eaten ones make room", t.eats(0, 99) + t.gives(0, 99), 9900 + 9999);
        due("28 from the kitchen", t.led(0, 2), 10098);
        t.dies(0);
        due("28 dead", t.gives(0, 1), -2);
    }

    private static void passes() {
        BorderTable t = at(0, 1, 4, NONE);
        t.gives(0, 10);
        due("29 across", t.passes(0, 1, 4), 6);
        due("29 all", t.passes(0, 1, 6), 0);
        due("29 none", t.passes(0, 1, 1), -3);
        due("29 back", t.passes(1, 0, 9), 1);
        due("29 not next", t.passes(0, 2, 1), -2);
        due("29 not next ahead of too few", t.passes(0, 2, 99), -2);
        due("29 up", t.passes(0, 3, 1), -2);
        due("29 up", t.passes(3, 0, 1), -2);
        due("29 0", t.passes(0, 1, 0), NONE);
        due("29 100", t.passes(0, 1, 100), NONE);
        due("29 itself", t.passes(0, 0, 1), NONE);
        due("29 no such", t.passes(0, 4, 1), NONE);
        due("29 no such", t.passes(-1, 0, 1), NONE);
        due("29 far", t.passes(MOST, LEAST, MOST), NONE);
        law(t, "p(f=1)");
        due("29 by the law", t.passes(0, 1, 1), -2);
        due("29 by the law", t.passes(1, 0, 1), 0);
        law(t, "p(1=1)");
        for (int k = 0; k < 101; k++) {
            t.gives(1, 99);
        }
        due("29 it has", t.led(1, 0), 9999);
        due("29 it would have more", t.passes(0, 1, 1), -2);
        due("29 more ahead of too few", t.passes(0, 1, 99), -2);
    }

    private static void passesMost() {
        BorderTable t = at(0, 1);
        for (int k = 0; k < 101; k++) {
            t.gives(0, 99);
            t.passes(0, 1, 99);
            t.eats(1, 99);
        }
        due("29 from it", t.fed(0, 1), 9999);
        t.gives(0, 1);
        due("29 it would have got more", t.passes(0, 1, 1), -2);
        due("29 it has none", t.led(1, 0), 0);
        due("29 the other way", t.gives(1, 1) + t.passes(1, 0, 1), 1);
    }

    private static void eats() {
        BorderTable t = at(0, 1);
        t.gives(0, 10);
        due("30 some", t.eats(0, 3), 7);
        due("30 too few", t.eats(0, 8), -3);
        t.sit(0, NONE);
        due("30 standing", t.eats(0, 2), 5);
        due("30 0", t.eats(0, 0), NONE);
        due("30 100", t.eats(0, 100), NONE);
        due("30 no such", t.eats(2, 1), NONE);
        due("30 no such", t.eats(-1, 1), NONE);
        due("30 far", t.eats(MOST, LEAST), NONE);
        due("30 has none", t.eats(1, 1), -3);
        due("30 the rest", t.eats(0, 5), 0);
        due("30 eaten", t.led(0, 1), 10);
    }

    private static void fed() {
        BorderTable t = at(0, 1, 2);
        t.gives(0, 50);
        t.passes(0, 1, 7);
        t.passes(0, 1, 8);
        t.passes(0, 2, 9);
        t.passes(1, 0, 4);
        due("31 twice", t.fed(0, 1), 15);
        due("31 another", t.fed(0, 2), 9);
        due("31 back", t.fed(1, 0), 4);
        due("31 never", t.fed(2, 0), 0);
        due("31 itself", t.fed(0, 0), NONE);
        due("31 no such", t.fed(0, 3), NONE);
        due("31 no such", t.fed(-1, 0), NONE);
        due("31 far", t.fed(MOST, LEAST), NONE);
    }

    private static void led() {
        BorderTable t = at(0, 1, 2);
        t.gives(0, 50);
        t.gives(1, 20);
        t.passes(0, 1, 7);
        t.passes(0, 2, 8);
        t.passes(1, 0, 5);
        t.eats(0, 6);
        int[] due = {34, 6, 50, 5, 15};
        for (int k = 0; k < 5; k++) {
            due("32 what " + k, t.led(0, k), due[k]);
        }
        due("32 of 2", t.led(2, 0) * 10 + t.led(2, 3), 88);
        due("32 no such what", t.led(0, 5), NONE);
        due("32 no such what", t.led(0, -1), NONE);
        due("32 no such", t.led(3, 0), NONE);
        due("32 no such", t.led(-1, 0), NONE);
        due("32 far", t.led(LEAST, MOST), NONE);
        t.dies(0);
        due("32 a dead one", t.led(0, 0), 34);
    }

    private static void seed() {
        BorderTable t = new BorderTable();
        due("33 0", t.seed(0), true);
        due("33 X", t.count(6), 0);
        due("33 65535", t.seed(65535), true);
        due("33 65536", t.seed(65536), false);
        due("33 -1", t.seed(-1), false);
        due("33 far", t.seed(LEAST) || t.seed(MOST), false);
        due("33 X stays", t.count(6), 65535);
        t.draw(1);
        due("33 from the seed on", t.count(6), (25173L * 65535 + 13849) % 65536);
    }

    private static void draw() {
        BorderTable t = at(6, 4, 8, 7);
        due("34 0", t.draw(0), NONE);
        due("34 61", t.draw(61), NONE);
        due("34 far", t.draw(MOST) + t.draw(LEAST), 2 * NONE);
        due("34 X stays", t.count(6), 1);
        due("34 nobody has any", t.draw(60), 0);
        for (int way = 0; way < 3; way++) {
            t.seed(seedFor(0, way));
            due("34 it has none", t.draw(1), 0);
            t.gives(0, 1);
            t.seed(seedFor(0, way));
            due("34 way " + way, t.draw(1), 1);
            due("34 to whom", t.led(way + 1, 3), 1);
        }
        law(t, "p(!f=0)");
        t.gives(0, 1);
        t.seed(seedFor(0, 2));
        due("34 it may not", t.draw(1), 0);
        law(t, "p(1=1)");
        t.seed(seedFor(0, 2));
        t.rain(0, 0, 19);
        due("34 in the rain", t.draw(1), 1);
        t.gives(2, 1);
        t.seed(seedFor(2, 1));
        due("34 nobody behind", t.draw(1), 0);
        t.seed(seedFor(12, 1));
        due("34 no such guest", t.draw(1), 0);
        BorderTable u = at(0, 38, 2);
        u.gives(0, 1);
        u.gives(1, 1);
        u.seed(seedFor(0, 0));
        due("34 ahead of the first place", u.draw(1), 0);
        u.seed(seedFor(1, 1));
        due("34 behind the last place", u.draw(1), 0);
        due("34 one step", u.count(6), (25173L * seedFor(1, 1) + 13849) % 65536);
        BorderTable v = at(0, 1);
        for (int k = 0; k < 101; k++) {
            v.gives(1, 99);
        }
        v.gives(0, 1);
        v.seed(seedFor(0, 2));
        due("34 it would have more", v.draw(1), 0);
        v.eats(1, 1);
        v.seed(seedFor(0, 2));
        due("34 it has room", v.draw(1), 1);
        v.sit(1, NONE);
        v.seed(seedFor(1, 2));
        due("34 one is up", v.draw(1), 0);
    }

    private static void keep() {
        BorderTable t = at(0, 1, NONE);
        due("35 two sit", t.keep(), 2);
        t.sit(2, 5);
        due("35 three", t.keep(), 3);
        t.dies(0);
        due("35 two", t.keep(), 2);
        t.sit(1, 9);
        due("35 as kept last", t.undo(), true);
        due("35 as kept last", t.count(20) * 100 + t.count(21) * 10 + t.count(22), -200 + 10 + 5);
        due("35 nobody", new BorderTable().keep(), 0);
    }

    private static void undo() {
        BorderTable t = at(0, 1, NONE);
        t.knives(3, 5);
        t.gives(0, 20);
        t.passes(0, 1, 4);
        t.eats(0, 2);
        t.seed(77);
        t.keep();
        t.sit(0, 1 + 1);
        t.sit(2, 0);
        t.dies(1);
        t.put(3, 4, 2);
        t.gives(0, 5);
        t.sit(2, 4);
        t.passes(0, 2, 3);
        t.eats(0, 1);
        t.draw(3);
        t.liking(0, 1, 5);
        t.heir(0, 2);
        t.rain(1, 1, 1);
        t.counted(0, 0, 0, 0);
        t.speech(0, 0, 1);
        law(t, "h1+l(1=1)");
        t.feed(0, 0, 0, 0, 0);
        for (int k = 0; k < 2; k++) {
            due("36 undone", t.undo(), true);
            due("36 seats", t.count(20) * 100 + t.count(21) * 10 + t.count(22), 9);
            due("36 who is at 0, 1", t.sit(2, 0) || t.sit(2, 1), false);
            due("36 who was at 4", t.sit(2, 4), true);
            due("36 knives", t.count(43) * 10 + t.count(44), 50);
            due("36 has", t.led(0, 0), 14);
            due("36 eaten", t.led(0, 1), 2);
            due("36 kitchen", t.led(0, 2), 20);
            due("36 fed", t.fed(0, 1), 4);
            due("36 fed", t.fed(0, 2), 0);
            due("36 X", t.count(6), 77);
            due("36 liking, law stay", t.two(0, 1, 1), 6);
            due("36 rain, speech, count, tape stay", t.count(3) + t.count(4) + t.count(5) + t.count(2), 23);
        }
        t.undo();
        due("36 heirs stay", t.dies(0), 2);
        t.guest(2, 0);
        due("36 a refused guest is not told", t.undo(), true);
        t.guest(0, NONE);
        due("36 a guest since", t.undo(), false);
        due("36 a guest since, again", t.undo(), false);
        t.keep();
        due("36 kept again", t.undo(), true);
        due("36 none was kept", at(0).undo(), false);
    }

    private static void check() {
        BorderTable t = at(0, 3, 38, NONE);
        numbers(t, 0, -1, -1, -1, -1);
        due("37 right", t.check(0, 5), NONE);
        due("37 empty then", t.count(2), 0);
        due("37 0", t.check(0, 0), NONE);
        numbers(t, -1, 1, -1, -1, -1);
        due("37 the other side", t.check(1, 5), NONE);
        numbers(t, -1, 1, 0, -1, 9);
        due("37 the first that is not so", t.check(1, 5), 2);
        due("37 empty then, too", t.count(2), 0);
        numbers(t, -1, 1, 0, -1, 9);
        due("37 ahead of it", t.check(1, 2), NONE);
        numbers(t, 0x0000FFFF, 0, 0, 0, 0);
        due("37 four bytes", t.check(0, 1), 0);
        numbers(t, 0x01000000, 0, 0, 0, 0);
        due("37 the highest first", t.check(0, 1), 0);
        numbers(t, 0, -1, -1, -1, -1, -1, -1, -1, -1, -1, -1, -1, -1, -1, -1, -1, -1, -1, -1, 2);
        due("37 twenty", t.check(0, 20), NONE);
        numbers(t, 0, -1, -1, -1, -1, -1, -1, -1, -1, -1, -1, -1, -1, -1, -1, -1, -1, -1, -1, -1);
        due("37 twenty, the last is not so", t.check(0, 20), 19);
        numbers(t, 0, -1, -1, -1, -1);
        due("37 side 2", t.check(2, 0), -2);
        due("37 side -1", t.check(-1, 0), -2);
        due("37 21", t.check(0, 21), -2);
        due("37 -1", t.check(0, -1), -2);
        due("37 has not so many", t.check(0, 6), -2);
        due("37 far", t.check(MOST, LEAST) + t.check(0, MOST), -4);
        due("37 2^30", t.check(0, 1 << 30), -2);
        due("37 the tape stays", t.count(2), 20);
        due("37 0, with a tape", t.check(0, 0), NONE);
        due("37 0: empty then", t.count(2), 0);
        t.dies(2);
        numbers(t, 0, -1, -1, -1, -1, -1, -1, -1, -1, -1, -1, -1, -1, -1, -1, -1, -1, -1, -1, 2);
        due("37 a dead one sits nowhere", t.check(0, 20), 19);
    }

    private static void count() {
        BorderTable t = at(7, NONE, 39);
        law(t, "w1(1=1);p(1=1)");
        t.feed(0, 0, 0, 0, 0);
        t.rain(0, 0, 0);
        t.rain(0, 0, 0);
        t.speech(0, 0, 1);
        t.speech(0, 0, 1);
        t.speech(0, 0, 1);
        for (int k = 0; k < 4; k++) {
            t.counted(0, 0, 0, k);
        }
        t.seed(65535);
        t.dies(2);
        t.knives(0, 4);
        t.knives(39, 6);
        int[] due = {3, 2, 20, 2, 3, 4, 65535, NONE};
        for (int k = 0; k < due.length; k++) {
            due("38 count(" + k + ")", t.count(k), due[k]);
        }
        due("38 seat", t.count(20), 7);
        due("38 up", t.count(21), NONE);
        due("38 dead", t.count(22), -2);
        due("38 no such guest", t.count(23), NONE);
        due("38 no such guest", t.count(35) + t.count(36) + t.count(39), -3);
        due("38 first knives", t.count(40), 4);
        due("38 last knives", t.count(79), 6);
        for (int k : new int[] {-1, -2, 19, 80, 100, MOST, LEAST}) {
            due("38 count(" + k + ")", t.count(k), NONE);
        }
    }

    public static void main(String[] args) {
        newObject();
        guest();
        liking();
        sit();
        feed();
        lawTape();
        lawFaults();
        lawLimits();
        lawReckons();
        lawHolds();
        two();
        worth();
        rain();
        soonest();
        rumour();
        speech();
        heard();
        smuggled();
        sum();
        seating();
        seatingSeven();
        exchange();
        exchanges();
        exchangesMost();
        strays();
        home();
        heir();
        dies();
        knives();
        put();
        counted();
        missing();
        wrong();
        gives();
        passes();
        passesMost();
        eats();
        fed();
        led();
        seed();
        draw();
        keep();
        undo();
        check();
        count();
        end();
    }
}
