/** The sentences of promises 21 to 38, as Boundary1To20Tests has those ahead of them. */
public final class Boundary21To38Tests extends Quoting {
    private static final int[] FAR = {MOST, LEAST, MOST - 1, LEAST + 1, 1 << 16, -(1 << 16)};

    private static void p21() throws Exception {
        promise(21);
        BorderTable t = at(0, NONE, NONE);
        says("The HEIR of a GUEST");
        is("told", t.heir(0, 1), true);
        is("another one in its place", t.heir(0, 2), true);
        says("(NONE: none): true");
        is("none", t.heir(1, NONE), true);
        is("none again", t.heir(1, NONE), true);
        says("false: no such ones");
        is("guest -1", t.heir(-1, 0), false);
        is("guest 3 of three", t.heir(3, 0), false);
        is("heir -2", t.heir(0, -2), false);
        is("heir 3 of three", t.heir(0, 3), false);
        is("none of guest 3", t.heir(3, NONE), false);
        for (int far : FAR) {
            is("far guest", t.heir(far, 0), false);
            is("far heir", t.heir(0, far), false);
        }
        says("itself");
        is("0", t.heir(0, 0), false);
        is("no guest's self", t.heir(3, 3) || t.heir(NONE, NONE), false);
        is("refused ones change nothing", t.dies(0), 2);
        BorderTable u = at(0, NONE);
        u.heir(0, 1);
        u.heir(0, NONE);
        says("NONE: none");
        is("one that was taken back", u.dies(0), -2);
        BorderTable v = row(15);
        v.guest(0, NONE);
        says("The HEIR of a GUEST");
        is("the last of sixteen", v.heir(0, 15), true);
        is("gets the seat", v.dies(0), 15);
    }

    private static void p22() throws Exception {
        promise(22);
        BorderTable t = at(39, NONE, 0, 2);
        t.heir(0, 2);
        t.heir(2, 1);
        says("A GUEST DIES: who gets its SEAT");
        is("the heir sits, so its heir", t.dies(0), 1);
        is("it sits there", t.count(21), 39);
        is("dead", t.count(20), -2);
        is("all others stay", t.count(22) * 10 + t.count(23), 2);
        says("-2: nobody");
        is("no heir", t.dies(3), -2);
        is("its seat is empty", t.sit(1, 2), true);
        is("all heirs sit", t.dies(2), -2);
        is("no such heir any more", t.heir(1, 0) ? t.dies(1) : 0, -2);
        BorderTable u = at(NONE, NONE);
        u.heir(0, 1);
        is("one who was up", u.dies(0), -2);
        is("its heir is up", u.count(21), NONE);
        is("dead", u.count(20), -2);
        says("NONE: no such one");
        is("guest -1", u.dies(-1), NONE);
        is("guest 2 of two", u.dies(2), NONE);
        for (int far : FAR) {
            is("far", u.dies(far), NONE);
        }
        is("the last of them lives", u.count(21), NONE);
        says("it is dead");
        is("twice", u.dies(0), NONE);
        u.heir(0, 1);
        is("with an heir", u.dies(0), NONE);
    }

    private static void p23() throws Exception {
        promise(23);
        BorderTable t = new BorderTable();
        says("KNIVES of a SEAT: true");
        is("0 at the first", t.knives(0, 0), true);
        is("9 at the last", t.knives(39, 9), true);
        is("there", t.count(79), 9);
        is("in place of those before", t.knives(39, 1), true);
        is("there", t.count(79), 1);
        says("false: no such ones");
        is("seat -1", t.knives(-1, 5), false);
        is("seat 40", t.knives(40, 5), false);
        is("-1", t.knives(39, -1), false);
        is("10", t.knives(39, 10), false);
        for (int far : FAR) {
            is("far", t.knives(far, 5) || t.knives(39, far), false);
        }
        is("as before", t.count(79) * 10 + t.count(40), 10);
    }

    private static void p24() throws Exception {
        promise(24);
        BorderTable t = new BorderTable();
        t.knives(0, 9);
        t.knives(1, 9);
        says("PUT: true");
        is("one", t.put(0, 39, 1), true);
        is("all that are left", t.put(0, 39, 8), true);
        is("there", t.count(79) * 10 + t.count(40), 90);
        says("false: no such ones");
        is("from -1", t.put(-1, 1, 1), false);
        is("from 40", t.put(40, 1, 1), false);
        is("to -1", t.put(1, -1, 1), false);
        is("to 40", t.put(1, 40, 1), false);
        for (int far : FAR) {
            is("far", t.put(far, 1, 1) || t.put(1, far, 1) || t.put(1, 2, far), false);
        }
        says("one twice");
        is("1 to 1", t.put(1, 1, 1), false);
        says("it has not so many");
        is("10 of 9", t.put(1, 2, 10), false);
        is("1 of 0", t.put(0, 2, 1), false);
        says("(1 at least)");
        is("0", t.put(1, 2, 0), false);
        is("0 of 0", t.put(0, 2, 0), false);
        is("-1", t.put(1, 2, -1), false);
        says("more than 99 would be there");
        for (int k = 0; k < 10; k++) {
            t.put(1, 39, 9);
            t.knives(1, 9);
        }
        is("99", t.count(79), 99);
        is("100", t.put(1, 39, 1), false);
        is("from there, 99 at once", t.put(39, 0, 99), true);
        is("none is left", t.count(79) * 100 + t.count(40), 99);
        t.knives(39, 1);
        t.put(0, 2, 1);
        is("99 again", t.put(39, 0, 1), true);
        is("100 again", t.put(1, 0, 1), false);
        is("nothing is gone", t.count(40) * 10 + t.count(41), 999);
    }

    private static void p25() throws Exception {
        promise(25);
        BorderTable t = new BorderTable();
        says("NONE: no such ones (0 to 999)");
        is("side -1", t.counted(-1, 0, 0, 0), NONE);
        is("side 2", t.counted(2, 0, 0, 0), NONE);
        is("from -1", t.counted(0, -1, 0, 0), NONE);
        is("from 20", t.counted(0, 20, 20, 0), NONE);
        is("to 20", t.counted(0, 0, 20, 0), NONE);
        is("to ahead of from", t.counted(0, 1, 0, 0), NONE);
        is("-1", t.counted(0, 0, 0, -1), NONE);
        is("1000", t.counted(0, 0, 0, 1000), NONE);
        for (int far : FAR) {
            is("far side", t.counted(far, 0, 0, 0), NONE);
            is("far from", t.counted(0, far, 19, 0), NONE);
            is("far to", t.counted(0, 0, far, 0), NONE);
            is("far number", t.counted(0, 0, 0, far), NONE);
        }
        is("none is told", t.count(5), 0);
        says("COUNTED: how many COUNTS there are");
        is("all of a side, 0", t.counted(0, 0, 19, 0), 1);
        is("the last place, 999", t.counted(1, 19, 19, 999), 2);
        for (int k = 3; k <= 20; k++) {
            is("the same again", t.counted(0, 0, 19, 0), k);
        }
        says("20 are there");
        is("a 21st", t.counted(0, 0, 19, 0), NONE);
        is("twenty", t.count(5), 20);
        is("none was lost", t.missing(1) * 10 + t.missing(19), -9990);
    }

    private static void p26() throws Exception {
        promise(26);
        BorderTable t = new BorderTable();
        t.knives(0, 1);
        t.knives(38, 2);
        t.knives(39, 4);
        says("MISSING by COUNT i");
        t.counted(0, 0, 19, 0);
        t.counted(0, 0, 18, 2);
        t.counted(0, 19, 19, 2);
        t.counted(1, 0, 19, 999);
        is("all of the side", t.missing(0), 3);
        is("all but the last place", t.missing(1), -1);
        is("the last place", t.missing(2), 0);
        is("the other side", t.missing(3), 4 - 999);
        says("-100000: no such one");
        is("-1", t.missing(-1), -100000);
        is("4 of four", t.missing(4), -100000);
        is("0 of none", new BorderTable().missing(0), -100000);
        is("20", t.missing(20), -100000);
        for (int far : FAR) {
            is("far", t.missing(far), -100000);
        }
        for (int k = 4; k < 20; k++) {
            t.counted(1, 19, 19, k);
        }
        says("MISSING by COUNT i");
        is("the twentieth", t.missing(19), 4 - 19);
        says("no such one");
        is("20 of twenty", t.missing(20), -100000);
    }

    private static void p27() throws Exception {
        promise(27);
        BorderTable t = new BorderTable();
        says("NONE: none");
        is("nobody's word", t.wrong(), NONE);
        t.counted(0, 0, 19, 0);
        t.counted(1, 3, 5, 999);
        is("they can be true", t.wrong(), NONE);
        says("The first WRONG COUNT");
        t.counted(1, 3, 5, 998);
        t.counted(0, 0, 19, 1);
        is("the first of two", t.wrong(), 2);
        t.knives(0, 1);
        is("the very first", t.wrong(), 0);
        BorderTable u = new BorderTable();
        for (int k = 0; k < 19; k++) {
            u.counted(1, k, k, 7);
        }
        is("nineteen places, the last has what is left", u.wrong(), NONE);
        u.counted(1, 19, 19, 0);
        is("the twentieth of twenty", u.wrong(), 19);
    }

    private static void p28() throws Exception {
        promise(28);
        BorderTable t = at(0, NONE);
        says("A KITCHEN gives PLATES: how many it has");
        is("1", t.gives(0, 1), 1);
        is("99", t.gives(0, 99), 100);
        says("-2: it does not sit");
        is("up", t.gives(1, 1), -2);
        is("up, 99", t.gives(1, 99), -2);
        says("it would have more than 9999");
        for (int k = 0; k < 99; k++) {
            t.gives(0, 99);
        }
        is("99 more than 9901", t.gives(0, 99), -2);
        is("98 more", t.gives(0, 98), 9999);
        is("1 more", t.gives(0, 1), -2);
        is("refused ones are not from the kitchen", t.led(0, 2), 9999);
        t.eats(0, 1);
        is("what it would have, not what it got", t.gives(0, 1), 9999);
        says("NONE: no such ones");
        is("0", t.gives(0, 0), NONE);
        is("-1", t.gives(0, -1), NONE);
        is("100", t.gives(0, 100), NONE);
        is("guest -1", t.gives(-1, 1), NONE);
        is("guest 2 of two", t.gives(2, 1), NONE);
        is("100 ahead of up", t.gives(1, 100), NONE);
        for (int far : FAR) {
            is("far", t.gives(far, 1) + t.gives(0, far), 2 * NONE);
        }
        says("it does not sit");
        t.dies(0);
        is("dead", t.gives(0, 1), -2);
    }

    private static void p29() throws Exception {
        promise(29);
        BorderTable t = at(0, 2, 6, NONE, 1, 3);
        law(t, "p(!g=4)");
        for (int k = 0; k < 101; k++) {
            t.gives(0, 99);
        }
        says("PASSED: how many a has then");
        is("1", t.passes(0, 1, 1), 9998);
        is("99", t.passes(0, 1, 99), 9899);
        is("all", t.passes(1, 5, 99) * 10 + t.passes(1, 5, 1), 10);
        says("-2: it may not pass so");
        is("not to 4, nor aslant, nor up", t.passes(0, 4, 99) + t.passes(4, 1, 99) + t.passes(3, 4, 99), -6);
        says("(not NEXT");
        is("two places away", at(0, 4).passes(0, 1, 1), -2);
        is("aslant", t.passes(0, 5, 1), -2);
        is("round the table's ends", at(0, 38).passes(0, 1, 1), -2);
        says("one does not sit");
        is("a", t.passes(3, 0, 1), -2);
        is("b", t.passes(0, 3, 1), -2);
        is("a, by b at the other end", at(NONE, 1).passes(0, 1, 1), -2);
        is("b, by a at the other end", at(1, NONE).passes(0, 1, 1), -2);
        is("both", at(NONE, NONE).passes(0, 1, 1), -2);
        says("by THE LAW");
        is("not to 4", t.passes(0, 4, 1), -2);
        is("from 4, who has none", t.passes(4, 0, 1), -3);
        says("RAIN is not asked)");
        t.rain(0, 0, 19);
        is("in the rain", t.passes(0, 1, 1), 9898);
        says("else -3: it has not so many");
        is("2 of 1", t.passes(1, 5, 2), -3);
        is("1 of 1", t.passes(1, 5, 1), 0);
        is("1 of 0", t.passes(1, 5, 1), -3);
        is("not next, too", t.passes(2, 1, 1), -2);
        says("NONE: no such ones");
        is("a -1", t.passes(-1, 0, 1), NONE);
        is("a 6 of six", t.passes(6, 0, 1), NONE);
        is("b -1", t.passes(0, -1, 1), NONE);
        is("b 6 of six", t.passes(0, 6, 1), NONE);
        says("one twice");
        is("0 to 0", t.passes(0, 0, 1), NONE);
        is("who is up, to itself", t.passes(3, 3, 1), NONE);
        says("(1 to 99)");
        is("0", t.passes(0, 1, 0), NONE);
        is("-1", t.passes(0, 1, -1), NONE);
        is("100", t.passes(0, 1, 100), NONE);
        is("100, up", t.passes(3, 0, 100), NONE);
        is("nothing is gone", t.led(0, 0), 9898);
        for (int far : FAR) {
            is("far", t.passes(far, 0, 1) + t.passes(0, far, 1) + t.passes(0, 1, far), 3 * NONE);
        }
        passedMost();
    }

    private static void passedMost() {
        says("b would have, or have got from it, more than 9999");
        BorderTable t = at(0, 1, 2);
        for (int k = 0; k < 101; k++) {
            t.gives(1, 99);
        }
        t.gives(0, 99);
        is("it would have 10000", t.passes(0, 1, 1), -2);
        is("ahead of too few", t.passes(2, 0, 99) * 10 + t.passes(1, 0, 99), -30 + 9900);
        t.eats(1, 10);
        is("it has 9890 then", t.passes(0, 1, 99), 99);
        t.eats(1, 89);
        t.gives(1, 99);
        is("9999 at most", t.passes(0, 1, 1), -2);
        BorderTable u = at(0, 1);
        for (int k = 0; k < 101; k++) {
            u.gives(0, 99);
            u.passes(0, 1, 99);
            u.eats(1, 99);
        }
        is("got from it 9999", u.fed(0, 1), 9999);
        u.gives(0, 9);
        is("one more", u.passes(0, 1, 1), -2);
        is("refused though it has none", u.led(1, 0), 0);
        u.gives(1, 9);
        is("from the other one", u.passes(1, 0, 9), 0);
        BorderTable v = at(0, 1);
        for (int k = 0; k < 100; k++) {
            v.gives(0, 99);
            v.passes(0, 1, 99);
            v.eats(1, 99);
        }
        v.gives(0, 99);
        v.passes(0, 1, 1);
        is("9901 and 99", v.passes(0, 1, 99), -2);
        is("9901 and 98", v.passes(0, 1, 98), 0);
        is("9999 and 1, it has none", v.passes(0, 1, 1), -2);
    }

    private static void p30() throws Exception {
        promise(30);
        BorderTable t = at(0, 1);
        t.gives(0, 99);
        t.gives(0, 2);
        says("EATEN: how many it has then");
        is("1", t.eats(0, 1), 100);
        is("99", t.eats(0, 99), 1);
        says("-3: it has not so many");
        is("2 of 1", t.eats(0, 2), -3);
        is("1 of 1", t.eats(0, 1), 0);
        is("1 of 0", t.eats(0, 1), -3);
        is("who never had any", t.eats(1, 1), -3);
        is("refused ones are not eaten", t.led(0, 1), 101);
        says("NONE: no such ones (1 to 99)");
        is("0", t.eats(0, 0), NONE);
        is("-1", t.eats(0, -1), NONE);
        is("100", t.eats(0, 100), NONE);
        is("guest -1", t.eats(-1, 1), NONE);
        is("guest 2 of two", t.eats(2, 1), NONE);
        for (int far : FAR) {
            is("far", t.eats(far, 1) + t.eats(0, far), 2 * NONE);
        }
        says("EATEN");
        t.gives(1, 5);
        t.sit(1, NONE);
        is("who is up", t.eats(1, 2), 3);
    }

    private static void p31() throws Exception {
        promise(31);
        BorderTable t = at(0, 1, NONE);
        t.gives(0, 9);
        says("FED: from a to b");
        is("not yet", t.fed(0, 1), 0);
        t.passes(0, 1, 5);
        t.passes(1, 0, 2);
        is("0 to 1", t.fed(0, 1), 5);
        is("1 to 0", t.fed(1, 0), 2);
        t.passes(0, 1, 99);
        is("a refused one is none", t.fed(0, 1), 5);
        is("who is up", t.fed(0, 2) + t.fed(2, 0), 0);
        t.dies(1);
        is("one is dead now", t.fed(0, 1), 5);
        says("NONE: no such ones");
        is("a -1", t.fed(-1, 0), NONE);
        is("a 3 of three", t.fed(3, 0), NONE);
        is("b -1", t.fed(0, -1), NONE);
        is("b 3 of three", t.fed(0, 3), NONE);
        for (int far : FAR) {
            is("far", t.fed(far, 0) + t.fed(0, far), 2 * NONE);
        }
        says("one twice");
        is("0 to 0", t.fed(0, 0), NONE);
        BorderTable u = row(16);
        u.gives(14, 7);
        u.passes(14, 15, 7);
        says("from a to b");
        is("the last two", u.fed(14, 15) * 10 + u.fed(15, 14), 70);
    }

    private static void p32() throws Exception {
        promise(32);
        BorderTable t = at(2, 0, 4, NONE);
        t.gives(0, 50);
        t.gives(1, 9);
        t.passes(0, 1, 4);
        t.passes(0, 2, 5);
        t.passes(1, 0, 8);
        t.passes(2, 0, 1);
        t.eats(0, 7);
        says("LED, what 0 how many a GUEST has");
        is("50 and 9, less 9 and 7", t.led(0, 0), 43);
        says("1 has eaten");
        is("7", t.led(0, 1), 7);
        says("2 got from the KITCHEN");
        is("50", t.led(0, 2), 50);
        says("3 got by passings");
        is("8 and 1", t.led(0, 3), 9);
        says("4 passed on");
        is("4 and 5", t.led(0, 4), 9);
        for (int what = 0; what < 5; what++) {
            is("who never had any, what " + what, t.led(3, what), 0);
        }
        says("NONE: no such ones");
        is("what -1", t.led(0, -1), NONE);
        is("what 5", t.led(0, 5), NONE);
        is("guest -1", t.led(-1, 0), NONE);
        is("guest 4 of four", t.led(4, 0), NONE);
        for (int far : FAR) {
            is("far", t.led(far, 0) + t.led(0, far), 2 * NONE);
        }
        says("how many a GUEST has");
        t.dies(0);
        is("a dead one", t.led(0, 0), 43);
    }

    private static void p33() throws Exception {
        promise(33);
        BorderTable t = new BorderTable();
        says("THE SEED (0 to 65535; X, too): true");
        is("65535", t.seed(65535), true);
        is("X", t.count(6), 65535);
        is("0", t.seed(0), true);
        is("X", t.count(6), 0);
        says("false: no such number");
        is("-1", t.seed(-1), false);
        is("65536", t.seed(65536), false);
        for (int far : FAR) {
            is("far", t.seed(far), false);
        }
        is("X stays", t.count(6), 0);
        t.draw(1);
        says("X, too");
        is("what comes of 0", t.count(6), 13849);
        t.seed(65535);
        t.draw(1);
        is("what comes of 65535, past 65536", t.count(6), 65536 + 13849 - 25173);
    }

    private static void p34() throws Exception {
        promise(34);
        BorderTable t = at(0, 1);
        says("DRAWN: how many passed");
        is("nobody has any", t.draw(1), 0);
        is("of nobody", new BorderTable().draw(60), 0);
        t.gives(0, 1);
        t.seed(seedFor(0, 2));
        is("one", t.draw(1), 1);
        t.seed(seedFor(0, 2));
        is("it has none any more", t.draw(1), 0);
        BorderTable u = row(16);
        for (int g = 0; g < 16; g++) {
            u.gives(g, 99);
        }
        int passed = u.draw(60);
        int fed = 0;
        for (int g = 0; g < 16; g++) {
            fed += u.led(g, 4);
        }
        is("sixty, each a plate", fed, passed);
        is("some of them", passed > 20 && passed < 60, true);
        long x = 1;
        for (int k = 0; k < 60; k++) {
            x = (25173 * x + 13849) % 65536;
        }
        is("X after sixty", u.count(6), x);
        says("NONE: no such n");
        is("0", u.draw(0), NONE);
        is("-1", u.draw(-1), NONE);
        is("61", u.draw(61), NONE);
        for (int far : FAR) {
            is("far", u.draw(far), NONE);
        }
        is("X stays", u.count(6), x);
    }

    private static void p35() throws Exception {
        promise(35);
        says("KEPT: how many GUESTS sit");
        is("nobody", new BorderTable().keep(), 0);
        BorderTable t = at(0, 39, NONE);
        is("two of three", t.keep(), 2);
        t.dies(1);
        is("the dead don't", t.keep(), 1);
        is("sixteen", row(16).keep(), 16);
        BorderTable u = at(NONE, NONE);
        is("all are up", u.keep(), 0);
        is("kept all the same", u.undo(), true);
    }

    private static void p36() throws Exception {
        promise(36);
        says("UNDONE: true");
        BorderTable t = at(0, 2);
        t.keep();
        is("nothing was done", t.undo(), true);
        t.sit(0, 39);
        t.dies(1);
        is("once", t.undo(), true);
        is("again", t.undo(), true);
        is("as it was kept", t.count(20) * 10 + t.count(21), 2);
        t.sit(0, 2 + 2);
        t.sit(1, 0);
        is("who sat where another one sits now", t.undo(), true);
        is("as it was kept", t.count(20) * 10 + t.count(21), 2);
        is("by places, too", t.sit(0, 2) || t.sit(1, 0), false);
        says("false: none was KEPT");
        is("a new one", new BorderTable().undo(), false);
        BorderTable u = at(5);
        is("a guest, none kept", u.undo(), false);
        is("it sits", u.count(20), 5);
        says("a GUEST is told since");
        t.guest(0, NONE);
        t.sit(0, 8);
        is("one since", t.undo(), false);
        is("nothing is undone", t.count(20), 8);
        is("it stays so", t.undo(), false);
        t.keep();
        is("kept since", t.undo(), true);
        t.guest(0, 8);
        is("a refused one is not told", t.undo(), true);
        BorderTable v = new BorderTable();
        v.keep();
        is("nobody was there, nobody is", v.undo(), true);
        v.guest(0, 0);
        is("somebody is", v.undo(), false);
        BorderTable w = row(16);
        w.keep();
        w.guest(0, 39);
        is("a 17th is not told", w.undo(), true);
    }

    private static void p37() throws Exception {
        promise(37);
        BorderTable t = at(0, 39, 1);
        int[] zero = {0, -1, -1, -1, -1, -1, -1, -1, -1, -1, -1, -1, -1, -1, -1, -1, -1, -1, -1, -1};
        int[] one = {2, -1, -1, -1, -1, -1, -1, -1, -1, -1, -1, -1, -1, -1, -1, -1, -1, -1, -1, 1};
        says("CHECK of a SIDE by the first n numbers of the tape");
        numbers(t, zero);
        is("all of side 0", t.check(0, 20), NONE);
        numbers(t, one);
        is("all of side 1", t.check(1, 20), NONE);
        says("(0 to 20");
        numbers(t, one);
        is("1", t.check(1, 1), NONE);
        is("0 of an empty tape", t.check(0, 0), NONE);
        says("four bytes each");
        numbers(t, 256, 0, 0, 0, 0);
        is("not the last byte alone", t.check(0, 1), 0);
        numbers(t, 1 << 24, 0, 0, 0, 0);
        is("nor without the first", t.check(0, 1), 0);
        numbers(t, 0, MOST, 0, 0, 0);
        is("far", t.check(0, 2), 1);
        numbers(t, LEAST, 0, 0, 0, 0);
        is("far below", t.check(0, 1), 0);
        numbers(t, 0, -2, 0, 0, 0);
        is("-2 is not -1", t.check(0, 2), 1);
        says("empty then)");
        numbers(t, zero);
        t.check(0, 1);
        is("of 80 bytes, 4 asked", t.count(2), 0);
        numbers(t, zero);
        t.check(1, 1);
        is("not so", t.count(2), 0);
        numbers(t, zero);
        t.check(0, 0);
        is("0 asked", t.count(2), 0);
        says("NONE: right");
        is("nothing asked", t.check(1, 0), NONE);
        says("else the place of the first number that is not so");
        numbers(t, 1, 1, 1, 1, 1);
        is("the first of five", t.check(0, 5), 0);
        one[19] = 0;
        numbers(t, one);
        is("the last of twenty", t.check(1, 20), 19);
        numbers(t, one);
        is("but for the last", t.check(1, 19), NONE);
        checkRefused(t, zero);
    }

    private static void checkRefused(BorderTable t, int[] row) {
        says("-2: no such ones");
        numbers(t, row);
        is("side -1", t.check(-1, 1), -2);
        is("side 2", t.check(2, 1), -2);
        is("side 2, 0 asked", t.check(2, 0), -2);
        is("-1", t.check(0, -1), -2);
        is("21", t.check(0, 21), -2);
        t.feed(0, 0, 0, 0, 0);
        is("21, the tape has them", t.check(0, 21), -2);
        for (int far : FAR) {
            is("far", t.check(far, 0) + t.check(0, far), -4);
        }
        is("so many that four bytes each are none", t.check(0, 1 << 30) + t.check(0, 1 << 31), -4);
        says("it has not so many");
        is("none of an empty tape", at(0).check(0, 1), -2);
        BorderTable u = at(0);
        numbers(u, row[0], -1, -1, -1, -1);
        is("6 of 5", u.check(0, 6), -2);
        is("20 of 5", u.check(0, 20), -2);
        says("(the tape stays)");
        is("100 stay", t.count(2), 100);
        is("20 stay", u.count(2), 20);
        is("5 of 5", u.check(0, 5), NONE);
    }

    private static void p38() throws Exception {
        promise(38);
        BorderTable t = new BorderTable();
        says("0 GUESTS");
        for (int g = 0; g < 16; g++) {
            is("before guest " + g, t.count(0), g);
            t.guest(0, g == 1 ? NONE : 2 * g);
        }
        t.guest(0, 39);
        t.dies(2);
        is("the dead, too", t.count(0), 16);
        says("1 CLAUSES");
        law(t, "p(1=1)" + ";p(1=1)".repeat(13));
        is("fourteen", t.count(1), 14);
        says("2 bytes of the tape");
        for (int k = 0; k < 12; k++) {
            t.feed(0, 0, 0, 0, 0);
        }
        is("220", t.count(2), 220);
        says("3 RAINS");
        for (int k = 0; k <= 11; k++) {
            is("behind " + k, t.count(3), Math.min(k, 10));
            t.rain(0, 0, 0);
        }
        says("4 SPEECHES");
        for (int k = 0; k <= 11; k++) {
            is("behind " + k, t.count(4), Math.min(k, 10));
            t.speech(0, 0, 1);
        }
        says("5 COUNTS");
        for (int k = 0; k <= 21; k++) {
            is("behind " + k, t.count(5), Math.min(k, 20));
            t.counted(0, 0, 0, 0);
        }
        says("6 X");
        t.seed(65535);
        is("the greatest", t.count(6), 65535);
        says("20 + g the SEAT of GUEST g");
        is("the first", t.count(20), 0);
        is("the last", t.count(35), 30);
        says("(NONE: none; -2: dead)");
        is("up", t.count(21), NONE);
        is("dead", t.count(22), -2);
        is("no such guest", new BorderTable().count(20), NONE);
        says("40 + s KNIVES of SEAT s");
        t.knives(0, 3);
        t.knives(39, 7);
        is("the first", t.count(40), 3);
        is("the last", t.count(79), 7);
        says("NONE for others");
        for (int what : new int[] {-1, -2, 7, 8, 19, 36, 37, 38, 39, 80, 81, 120}) {
            is("" + what, t.count(what), NONE);
        }
        for (int far : FAR) {
            is("far", t.count(far), NONE);
        }
    }

    public static void main(String[] args) throws Exception {
        p21();
        p22();
        p23();
        p24();
        p25();
        p26();
        p27();
        p28();
        p29();
        p30();
        p31();
        p32();
        p33();
        p34();
        p35();
        p36();
        p37();
        p38();
        close();
        end();
    }
}
