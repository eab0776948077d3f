/** The sentences of the terms, each with the case at its edge; not a word of them is left out. */
public final class TermsTests extends Quoting {
    private static void rain() {
        says("RAIN: from a MINUTE (0 to 999) on at PLACES from one to another one (10 told at most)");
        BorderTable t = new BorderTable();
        for (int[] minute : new int[][] {{-1, NONE}, {1000, NONE}, {0, 1}, {999, 2}}) {
            is("minute " + minute[0], t.rain(minute[0], 0, 19), minute[1]);
        }
        for (int k = 3; k <= 12; k++) {
            is("rain " + k, t.rain(500, 19, 19), k > 10 ? NONE : k);
        }
        says("who sits there passes nothing and gets nothing from then on");
        BorderTable u = at(0, 1, 2, 3, 4, 5, 6, 7);
        u.rain(3, 1, 2);
        is("ahead of it", u.soonest(2, 3, 2), 3);
        is("from then on", u.soonest(2, 3, 3), -2);
        is("the last minute", u.soonest(4, 5, 99), -2);
        is("into it", u.soonest(0, 2, 3), -2);
        is("out of it", u.soonest(4, 6, 3), -2);
        is("a place ahead", u.soonest(0, 1, 3), 4);
        is("a place behind", u.soonest(6, 7, 3), 4);
        says("PASSED: what a GUEST has at a MINUTE can be at one to whom it may pass");
        law(u, "p(f<g)");
        is("may", u.soonest(0, 1, 0), 1);
        is("may not", u.soonest(1, 0, 0), -2);
        says("(both sit, no RAIN at either's PLACE in that MINUTE) a MINUTE later");
        is("passed in the last dry minute, got in the wet one", u.soonest(0, 2, 2), 3);
        is("two passings, the second in the rain", u.soonest(0, 3, 2), -2);
        u.sit(1, NONE);
        is("up", u.rumour(0, 0, 1), -2);
        says("who has it may wait");
        BorderTable w = at(0, 2, 4, 6);
        is("the first has it at last, too", w.rumour(0, 0, NONE), 4);
        w.rain(0, 3, 3);
        is("all but one", w.rumour(1, 0, NONE), 3);
        says("SOONEST from a GUEST at a MINUTE (0 to 99) to another one");
        for (int[] minute : new int[][] {{-1, NONE}, {0, 1}, {99, 100}, {100, NONE}}) {
            is("minute " + minute[0], w.soonest(0, 1, minute[0]), minute[1]);
        }
        says("the first MINUTE (999 at most)");
        is("the shorter of two ways", at(0, 2, 3, 1).soonest(0, 2, 7), 9);
        is("the latest of all", row(16).soonest(0, 15, 99), 114);
        says("a RUMOUR comes so to all who can be come to");
        is("sixteen in a row", row(16).rumour(7, 99, NONE), 16);
        is("the last one's minute", row(16).rumour(7, 99, 20), 107);
        is("minute 100", row(16).rumour(7, 100, NONE), -3);
        is("a gap", at(0, 2, 6, 8).rumour(0, 0, NONE), 2);
        is("alone", at(0, 4).rumour(0, 7, 20), 7);
        is("alone, the other one", at(0, 4).rumour(1, 8, 20), 8);
    }

    private static void speeches() {
        says("A SPEECH: from a PLACE and MINUTE on it is heard so many PLACES farther each MINUTE (1 to 5) to both sides");
        for (int speed = 0; speed <= 6; speed++) {
            BorderTable t = new BorderTable();
            boolean fits = speed >= 1 && speed <= 5;
            is("speed " + speed, t.speech(9, 100, speed), fits ? 1 : NONE);
            for (int minute = 98; minute < 121; minute++) {
                for (int seat = 0; seat < 40; seat++) {
                    int far = Math.abs(seat / 2 - 9);
                    boolean heard = fits && minute >= 100 && far <= (minute - 100) * speed;
                    is("speed " + speed + ", minute " + minute + ", seat " + seat, t.heard(seat, minute), heard ? 1 : 0);
                }
            }
        }
        says("(10 told at most). HEARD by a SEAT at a MINUTE: which SPEECHES have come to its PLACE");
        BorderTable u = new BorderTable();
        for (int k = 1; k <= 12; k++) {
            is("speech " + k, u.speech(k, 10 * k, 1), k > 10 ? NONE : k);
        }
        is("none yet", u.heard(0, 9), 0);
        is("the first is on its way", u.heard(0, 10), 0);
        is("the first", u.heard(0, 11), 1);
        is("all", u.heard(1, 999), 1023);
        says("(also just then)");
        is("told just then", u.heard(21, 100), 512 + 511);
        is("a minute ahead", u.heard(21, 99), 511);
    }

    private static void smuggling() {
        says("SMUGGLED from a GUEST to another one, by one NEXT to the other");
        BorderTable t = at(0, 2, 4, 1, 3, 5, NONE, 10);
        is("beside", t.smuggled(0, 1, 2), 1);
        is("across", t.smuggled(0, 3, 2), 1);
        is("aslant", t.smuggled(0, 4, 2), 2);
        is("nobody between", t.smuggled(2, 7, 2), -2);
        says("(all sit; who may pass is not asked, RAIN neither)");
        is("one is up", t.smuggled(0, 6, 2), -1);
        t.rain(0, 0, 19);
        law(t, "p(1=0)");
        is("in the rain, by no law", t.smuggled(0, 1, 2), 1);
        t.sit(1, NONE);
        is("not by one who is up", t.smuggled(0, 2, 2), 4);
        t.dies(4);
        is("nor by a dead one", t.smuggled(0, 2, 2), -2);
        says("in 1 to 6 passings");
        BorderTable u = row(9);
        for (int to = 1; to < 9; to++) {
            is("to " + to, u.smuggled(0, to, 2), to <= 6 ? to : -2);
        }
        says("nobody twice");
        is("itself", u.smuggled(0, 0, 2), -1);
        BorderTable v = at(2, 4, 0, 1, 3, 5);
        law(v, "v0(f=5&g=1);v900(g=1);v1(1=1)");
        is("round, once", v.smuggled(0, 1, 2), 3);
        is("by who", v.smuggled(0, 1, 11) * 10 + v.smuggled(0, 1, 12), 45);
        says("ODDS that none is seen: 1000 less v of each passing, together, through 1000 for each: the greatest");
        is("999 * 999 above", v.smuggled(0, 1, 0), 999 * 999);
        is("1000 * 1000 below", v.smuggled(0, 1, 1), 1000000);
        says("of like ones of fewest passings");
        law(v, "v0(1=1)");
        is("one", v.smuggled(0, 1, 2), 1);
        law(v, "v1000(1=1)");
        is("sure to be seen, one", v.smuggled(0, 1, 2), 1);
        says("of like ones the least row of GUESTS");
        is("by 2 or 4", v.smuggled(0, 3, 11), 2);
        is("back", v.smuggled(3, 0, 11), 2);
        law(v, "v1(f=2|g=2);v0(1=1)");
        is("the better one by 4", v.smuggled(0, 3, 11), 4);
    }

    private static void sums() {
        says("THE SUM: HARMS of all twos that sit with PLACES not more than 2 apart");
        BorderTable t = at(20, NONE);
        law(t, "h1(1=1)");
        for (int seat = 0; seat < 40; seat++) {
            if (t.sit(1, seat)) {
                is("with seat " + seat, t.sum(), Math.abs(seat / 2 - 10) <= 2 ? 1 : 0);
            }
        }
        t.sit(1, NONE);
        is("one is up", t.sum(), 0);
        harmsEverywhere();
        says("less what SEATS of all are worth");
        law(t, "w7(1=1)");
        is("of who sits", t.sum(), -7);
        law(t, "w0-7(1=1)");
        is("below 0", t.sum(), 7);
        says("SEATING told GUESTS (1 to 7, living)");
        BorderTable u = row(9);
        u.dies(8);
        for (int n = 0; n <= 8; n++) {
            feed(u, 20, 22, 24, 26, 28, 30, 32, 34);
            is(n + " of them", u.seating((1 << n) - 1, n, NONE), n >= 1 && n <= 7 ? 0 : -1000000);
            u.check(0, 0);
        }
        feed(u, 20);
        is("a dead one", u.seating(256, 1, NONE), -999999);
        says("at as many told SEATS (where none sits but these)");
        feed(u, 0, 4);
        is("where another one sits", u.seating(3, 2, NONE), -999999);
        feed(u, 2, 0);
        is("where they sit", u.seating(3, 2, NONE), 0);
        says("THE SUM then is least");
        law(u, "w10(f=0&s=22);w9(f=1&s=22);w5(f=1&s=20);w1(f=2)");
        feed(u, 22, 20);
        is("all are in it", u.seating(3, 2, 16), -16);
        is("done", u.sum(), -16);
        seatingHarms();
        says("of like ones the least row of SEATS by GUESTS' numbers");
        law(u, "w1(1=1)");
        feed(u, 38, 36, 34, 32, 30, 28, 26);
        u.seating(127, 7, 16);
        for (int g = 0; g < 7; g++) {
            is("guest " + g, u.count(20 + g), 26 + 2 * g);
        }
    }

    /** A HARM of its own for each two seats, asked one after the other while nothing else changes. */
    private static void harmsEverywhere() {
        BorderTable t = at(NONE, NONE);
        law(t, "h[s*7+t*11]%97(1=1)");
        for (int s = 0; s < 40; s++) {
            t.sit(1, NONE);
            t.sit(0, s);
            for (int to = Math.max(0, s - 7); to < Math.min(40, s + 8); to++) {
                if (t.sit(1, to)) {
                    int due = Math.abs(s / 2 - to / 2) <= 2 ? (s * 7 + to * 11) % 97 : 0;
                    is("seats " + s + " and " + to, t.sum(), due);
                }
            }
        }
        BorderTable u = new BorderTable();
        int due = 0;
        for (int g = 0; g < 16; g++) {
            u.guest(0, g);
            for (int f = 0; f < g; f++) {
                due += g / 2 - f / 2 <= 2 ? (f * 31 + g * 7) % 100 : 0;
            }
        }
        law(u, "h[f*31+g*7]%100(1=1)");
        is("of sixteen", u.sum(), due);
        is("of sixteen, again", u.sum(), due);
        for (int g = 0; g < 16; g++) {
            u.sit(g, NONE);
        }
        for (int g = 0; g < 16; g++) {
            for (int f = 0; f < g; f++) {
                u.sit(f, 20);
                u.sit(g, 22);
                is(f + " and " + g + " at the same seats", u.sum(), (f * 31 + g * 7) % 100);
                u.sit(f, NONE);
                u.sit(g, NONE);
            }
        }
    }

    private static void seatingHarms() {
        says("THE SUM then is least");
        BorderTable t = at(0, 2, 4);
        law(t, "h10(f=0&g=1&d=1);h7(f=1&g=2&d=1);h3(f=0&g=2&d=1);h1(1=1)");
        feed(t, 4, 2, 0);
        is("harms of those told", t.seating(7, 3, NONE), 3 + 7 + 1);
        for (int g = 0; g < 3; g++) {
            feed(t, 4, 2, 0);
            is("who sits between", t.seating(7, 3, g), new int[] {0, 4, 2}[g]);
        }
        feed(t, 38);
        is("a higher one's harm goes with it", t.seating(4, 1, NONE), 10);
        feed(t, 38);
        is("a lower one's, too", t.seating(1, 1, NONE), 7);
        feed(t, 6);
        is("harms of those who stay", t.seating(1, 1, NONE), 7 + 3 + 1);
        feed(t, 4, 2, 0);
        is("they change seats", t.seating(7, 3, 16), 11);
        numbers(t, 0, 2, 1, -1, -1);
        is("by places, too", t.check(0, 5), NONE);
        feed(t, 0);
        is("more than none at its own seat", t.seating(1, 1, NONE), 11);
    }

    private static void exchanging() {
        says("EXCHANGE: of two GUESTS who sit, or of one that sits and a SEAT without a GUEST");
        BorderTable t = at(0, 2, NONE);
        law(t, "w9(f=0&s=2);w8(f=1&s=0)");
        is("two", t.exchange(0) * 10 + t.exchange(1), 2);
        is("the sum then", t.exchange(2), -17);
        law(t, "w9(f=1&s=39)");
        is("one and a seat", t.exchange(0) * 100 + t.exchange(1), 139);
        law(t, "w99(f=2);w1(f=1&s=4)");
        is("not one who is up", t.exchange(0) * 10 + t.exchange(1), 14);
        says("the one by which THE SUM becomes least, if that is less than now");
        law(t, "w9(s=0);w5(s=30);w6(s=31);w7(s=32)");
        is("the least", t.exchange(0) * 100 + t.exchange(1), 132);
        law(t, "w9(s=0|s=2);w9(s=32)");
        is("a like one is none", t.exchange(0), -2);
        says("of like ones that of the lowest GUEST, then with the lowest SEAT");
        law(t, "w1(s>36)");
        is("lowest of all", t.exchange(0) * 100 + t.exchange(1), 37);
        law(t, "w1(f=1&s=0|f=1&s=4|f=0&s=39)");
        is("the guest ahead of the seat", t.exchange(0) * 100 + t.exchange(1), 2);
        BorderTable u = at(20, 4);
        law(u, "w1(f=1&s=20)");
        is("of two the lower one's", u.exchange(0) * 100 + u.exchange(1), 4);
        says("EXCHANGES: so, again and again, till there is none, 50 at most: how many; they are done");
        law(u, "w1(f=1&s=20);w3(f=0&s=6)");
        is("two", u.exchanges(), 2);
        is("done", u.count(20) * 100 + u.count(21), 620);
        is("none", u.exchanges(), 0);
        BorderTable v = fiftyTwo();
        int before = v.sum();
        is("fifty", v.exchanges(), 50);
        is("less", v.sum() < before, true);
        is("one is left", v.exchange(0) >= 0, true);
        is("two were left", v.exchanges(), 2);
        is("none is left", v.exchange(0), -2);
    }

    private static void homes() {
        says("STRAYS sit on the SIDE that is not their LAND's (SIDE 0 is LAND 0's)");
        for (int land = 0; land < 2; land++) {
            BorderTable t = new BorderTable();
            t.guest(land, NONE);
            is("up", t.strays(), 0);
            for (int seat = 0; seat < 40; seat++) {
                t.sit(0, seat);
                is("land " + land + ", seat " + seat, t.strays(), seat % 2 == land ? 0 : 1);
            }
        }
        says("HOME: fewest EXCHANGES (as above, whatever THE SUM) by which none is a STRAY");
        BorderTable u = new BorderTable();
        u.guest(0, 1);
        is("one, to an empty seat", u.home(), 1);
        u.guest(1, 38);
        is("two with one another", u.home(), 1);
        law(u, "w99(f=0&s=1|f=1&s=38);w0-99(1=1)");
        is("the sum is best as it is", u.exchange(0), -2);
        is("whatever the sum", u.home(), 1);
        u.guest(1, 36);
        is("one of them twice", u.home(), 2);
        is("not done", u.strays(), 7);
        says("HEIRS: of each GUEST one other (or none)");
        BorderTable v = at(0, NONE);
        is("itself", v.heir(0, 0), false);
        is("none", v.heir(0, NONE), true);
        is("one other", v.heir(0, 1), true);
        says("A GUEST DIES: its SEAT goes to its HEIR, if that lives and has none");
        is("lives, has none", v.dies(0), 1);
        says("else to the HEIR's HEIR, and so on");
        BorderTable w = at(0, NONE, 4, NONE);
        w.dies(1);
        w.heir(0, 1);
        w.heir(1, 2);
        w.heir(2, 3);
        is("past a dead one and one who sits", w.dies(0), 3);
        says("(at most 15 times)");
        BorderTable x = row(15);
        x.guest(0, NONE);
        for (int g = 0; g < 15; g++) {
            x.heir(g, g + 1);
        }
        is("the fifteenth", x.dies(0), 15);
        says("else it is empty");
        for (int g = 1; g < 15; g++) {
            x.heir(g, g + 1);
        }
        x.heir(15, 1);
        is("round and round", x.dies(5), -2);
        is("empty", x.sit(15, 10), true);
    }

    private static void knives() {
        says("KNIVES: each SEAT has some (0 to 9; 0 at first)");
        BorderTable t = new BorderTable();
        for (int n = -1; n <= 10; n++) {
            is("" + n, t.knives(7, n), n >= 0 && n <= 9);
        }
        for (int seat = 0; seat < 40; seat++) {
            is("at seat " + seat, t.count(40 + seat), seat == 7 ? 9 : 0);
        }
        says("PUT from a SEAT to another one");
        is("all of them", t.put(7, 0, 9), true);
        is("there", t.count(40) * 10 + t.count(47), 90);
        is("the same seat", t.put(0, 0, 1), false);
        says("COUNTED (20 at most)");
        BorderTable u = new BorderTable();
        for (int k = 1; k <= 22; k++) {
            is("count " + k, u.counted(k % 2, 0, 19, k), k > 20 ? NONE : k);
        }
        says("how many there are at SEATS from one to another one of a SIDE (by PLACES) by somebody's word");
        BorderTable v = new BorderTable();
        for (int seat = 0; seat < 40; seat++) {
            v.knives(seat, 1 + seat % 2);
        }
        is("the first place of side 0", v.counted(0, 0, 0, 0), 1);
        is("the last two of side 1", v.counted(1, 18, 19, 4), 2);
        is("all of side 0", v.counted(0, 0, 19, 999), 3);
        is("from behind to", v.counted(0, 1, 0, 0), NONE);
        says("MISSING by a COUNT: how many more there are than it says (below 0: fewer)");
        is("more", v.missing(0), 1);
        is("as many", v.missing(1), 0);
        is("fewer", v.missing(2), 20 - 999);
        wrongs();
    }

    private static void wrongs() {
        says("WRONG: COUNTS that can't all be true together with the number of all of that SIDE");
        BorderTable t = new BorderTable();
        t.knives(0, 5);
        t.knives(1, 3);
        t.counted(0, 0, 9, 2);
        is("the others may have 3", t.wrong(), NONE);
        t.counted(0, 10, 19, 4);
        is("2 and 4 are not 5", t.wrong(), 1);
        t.knives(38, 1);
        is("they are 6", t.wrong(), NONE);
        for (int side = 0; side < 2; side++) {
            BorderTable back = new BorderTable();
            back.counted(1 - side, 0, 0, 0);
            back.counted(side, 10, 19, 5);
            for (int k = 0; k < 3; k++) {
                is("5 less than none is left, asked again", back.wrong(), NONE);
            }
            back.knives(2 + side, 3);
            is("2 less than none is left", back.wrong(), NONE);
            back.knives(2 + side, 0);
            back.counted(side, 0, 9, 4);
            back.counted(side, 0, 9, 5);
            is("5 and 4 are not 0", back.wrong(), 2);
        }
        BorderTable one = new BorderTable();
        one.counted(0, 0, 0, 5);
        is("nobody's word behind it", one.wrong(), NONE);
        says("whatever the SEATS have");
        t.put(0, 20, 5);
        is("not as it is, but it might be", t.wrong(), NONE);
        t.put(20, 21, 1);
        is("the number of all is another one", t.wrong(), 1);
        says("the first that does not fit those ahead of it that do");
        BorderTable u = new BorderTable();
        u.counted(0, 0, 3, 4);
        u.counted(0, 2, 5, 5);
        u.counted(0, 0, 1, 1);
        u.counted(0, 4, 5, 2);
        is("4 less 1 is 3, 5 less 3 is 2", u.wrong(), NONE);
        u.counted(0, 2, 3, 2);
        is("it is 3", u.wrong(), 4);
        u.counted(0, 2, 3, 3);
        is("the right one behind it", u.wrong(), 4);
        BorderTable w = new BorderTable();
        w.counted(1, 4, 4, 1);
        w.counted(1, 4, 4, 2);
        w.counted(1, 4, 4, 1);
        is("of two the second", w.wrong(), 1);
        says("(as sums alone; SEATS have 0 or more are not asked)");
        BorderTable v = new BorderTable();
        v.knives(0, 1);
        v.counted(0, 0, 9, 999);
        v.counted(0, 0, 8, 1000 - 1);
        is("others would have less than 0", v.wrong(), NONE);
        v.counted(0, 9, 9, 0);
        is("999 less 999", v.wrong(), NONE);
        v.counted(0, 10, 19, 0);
        is("1 less 999", v.wrong(), 3);
        BorderTable both = new BorderTable();
        both.counted(0, 3, 3, 1);
        both.counted(1, 3, 3, 2);
        is("each side by itself", both.wrong(), NONE);
        both.counted(1, 3, 3, 1);
        is("side 1", both.wrong(), 2);
    }

    private static void plates() {
        says("PLATES: a KITCHEN gives some to a GUEST who sits (1 to 99; 9999 of one at most)");
        BorderTable t = at(0, 1, NONE);
        for (int[] n : new int[][] {{0, NONE}, {1, 1}, {99, 100}, {100, NONE}}) {
            is("" + n[0], t.gives(0, n[0]), n[1]);
        }
        is("up", t.gives(2, 1), -2);
        for (int k = 2; k <= 100; k++) {
            is("99 more", t.gives(0, 99), 1 + 99 * k);
        }
        is("10000", t.gives(0, 99), -2);
        is("9999", t.gives(0, 98), 9999);
        is("one more", t.gives(0, 1), -2);
        says("PASSED on by a GUEST to one NEXT to it, if it may pass and has so many");
        BorderTable u = at(0, 1, 3);
        u.gives(0, 99);
        is("99 of 99", u.passes(0, 1, 99), 0);
        is("1 of 0", u.passes(0, 1, 1), -3);
        is("not next", u.passes(0, 2, 1), -2);
        law(u, "p(1=0)");
        is("may not", u.passes(1, 0, 1), -2);
        says("EATEN");
        is("all", u.eats(1, 99), 0);
        is("1 of 0", u.eats(1, 1), -3);
        says("FED: how many one has passed to another one");
        is("99", u.fed(0, 1), 99);
        is("none back", u.fed(1, 0), 0);
        says("LED: of all that a GUEST has eaten, how many came to it (by passings or from the KITCHEN), how many it has");
        is("eaten", u.led(1, 1), 99);
        is("by passings", u.led(1, 3), 99);
        is("from the kitchen", u.led(1, 2) * 1000 + u.led(0, 2), 99);
        is("has", u.led(1, 0) + u.led(0, 0), 0);
    }

    private static void drawing() {
        says("DRAWN: n times (1 to 60)");
        BorderTable t = at(6, 4, 8, 7);
        for (int[] n : new int[][] {{0, NONE}, {1, 0}, {60, 0}, {61, NONE}}) {
            is("" + n[0], t.draw(n[0]), n[1]);
        }
        says("X = (25173 X + 13849) modulo 65536 (X is THE SEED at first, 1)");
        BorderTable u = new BorderTable();
        long x = 1;
        for (int k = 0; k < 400; k++) {
            is("X, " + k, u.count(6), x);
            x = (25173 * x + 13849) % 65536;
            u.draw(1);
        }
        u.seed(65535);
        u.draw(1);
        is("behind the greatest", u.count(6), (25173L * 65535 + 13849) % 65536);
        says("GUEST X modulo 16 passes a PLATE to who sits NEXT to it");
        BorderTable w = row(16);
        w.gives(15, 1);
        w.seed(seedFor(15, 0));
        is("guest 15", w.draw(1) * 10 + w.fed(15, 14), 11);
        w.gives(0, 1);
        w.seed(seedFor(0, 1));
        is("guest 0", w.draw(1) * 10 + w.fed(0, 1), 11);
        says("(X / 16 modulo 3: 0 the PLACE before, 1 behind, 2 across)");
        for (int g = 0; g < 16; g++) {
            for (int way = 0; way < 3; way++) {
                BorderTable v = new BorderTable();
                for (int h = 0; h < 16; h++) {
                    // g sits at seat 6, the three behind it in a ring at 4, 8 and 7
                    int k = (h - g + 16) % 16;
                    v.guest(0, k < 4 ? new int[] {6, 4, 8, 7}[k] : NONE);
                }
                v.gives(g, 1);
                v.seed(seedFor(g, way));
                is("guest " + g + ", way " + way, v.draw(1) * 10 + v.fed(g, (g + 1 + way) % 16), 11);
            }
        }
        BorderTable ends = at(0, 39, 2, 37);
        ends.gives(0, 9);
        ends.gives(1, 9);
        ends.seed(seedFor(0, 0));
        is("no place before the first", ends.draw(1), 0);
        ends.seed(seedFor(1, 1));
        is("no place behind the last", ends.draw(1), 0);
        ends.seed(seedFor(0, 2));
        is("nobody across", ends.draw(1), 0);
        ends.seed(seedFor(9, 2));
        is("no guest 9", ends.draw(1), 0);
        says("if it has one, both sit and it may (as passes()): how many did");
        BorderTable v = at(0, 1, NONE);
        v.seed(seedFor(0, 2));
        is("it has none", v.draw(1), 0);
        v.gives(0, 2);
        law(v, "p(f=1)");
        v.seed(seedFor(0, 2));
        is("it may not", v.draw(1), 0);
        law(v, "p(f=0)");
        v.rain(0, 0, 19);
        v.seed(seedFor(0, 2));
        is("it may, in the rain", v.draw(1), 1);
        v.sit(0, NONE);
        v.seed(seedFor(0, 2));
        is("it is up", v.draw(1), 0);
        v.sit(0, 0);
        for (int k = 0; k < 102; k++) {
            v.gives(1, k < 100 ? 99 : 98);
        }
        is("the other has all it may", v.led(1, 0), 9999);
        v.seed(seedFor(0, 2));
        is("10000 would be too many", v.draw(1), 0);
        is("nothing is gone", v.led(0, 0), 1);
    }

    private static void keeping() {
        says("KEPT: GUESTS' SEATS and lives, KNIVES, PLATES, FED");
        BorderTable t = at(0, 1, NONE);
        t.gives(0, 9);
        t.passes(0, 1, 4);
        t.eats(0, 1);
        t.knives(0, 5);
        t.seed(9);
        t.keep();
        t.sit(2, 2);
        t.gives(0, 50);
        is("passed since", t.passes(0, 1, 2) * 100 + t.passes(0, 2, 3), 5249);
        t.dies(1);
        t.sit(0, 1);
        t.eats(0, 20);
        t.put(0, 39, 5);
        t.draw(1);
        t.undo();
        is("seats", t.count(20) * 100 + t.count(21) * 10 + t.count(22), 9);
        is("lives", t.sit(1, NONE) && t.sit(1, 1), true);
        is("knives", t.count(40) * 10 + t.count(79), 50);
        is("plates", t.led(0, 0) * 10 + t.led(1, 0), 44);
        is("fed", t.fed(0, 1) * 10 + t.fed(0, 2), 40);
        says("(all of LED: what was EATEN, came from the KITCHEN, passings) as they are, X");
        is("eaten", t.led(0, 1), 1);
        is("from the kitchen", t.led(0, 2), 9);
        is("passings", t.led(1, 3) * 10 + t.led(0, 4), 44);
        is("X", t.count(6), 9);
        says("UNDONE: as they were KEPT last");
        t.sit(2, 30);
        t.keep();
        t.sit(2, 32);
        t.undo();
        is("as kept last", t.count(22), 30);
        t.heir(0, 1);
        t.liking(0, 1, 7);
        t.rain(0, 0, 0);
        t.counted(0, 0, 0, 0);
        t.feed(0, 0, 0, 0, 0);
        t.undo();
        is("rain, counts, tape are not kept", t.count(3) + t.count(5) + t.count(2), 22);
        says("CHECK of a SIDE: its GUESTS by PLACES (-1: none): right, or the first number that is not so");
        t.check(0, 0);
        numbers(t, 0, -1, -1, -1, -1);
        is("right", t.check(0, 5), NONE);
        numbers(t, 1, -1, -1, -1, 0);
        is("not so", t.check(1, 5), 4);
    }

    private static void rules() {
        says("All memory is the table's own");
        BorderTable t = at(0, 2);
        BorderTable u = at(0, 2);
        law(t, "h5(1=1)");
        law(u, "h6(1=1)");
        is("two tables", t.sum() * 10 + u.sum(), 56);
        is("a third", at(0, 2).sum(), 0);
        says("A call that is refused (NONE, false) changes nothing but the tape, where it is told");
        feed(t, 'h', '6', '(', '1', '=', '1', ')', 'x');
        is("a fault", t.law(8), -1007);
        is("the tape is empty, as told", t.count(2), 0);
        is("nothing else", t.sum(), 5);
        says("Where several of these fit one call NONE (or what is told in its place) is told first");
        is("sixteen and taken", row(16).guest(0, 0), NONE);
        is("no such n and up", at(NONE).gives(0, 100), NONE);
        is("one twice and up", at(NONE).two(0, 0, 0), NONE);
        is("up and never", at(0, NONE).soonest(0, 1, 0), NONE);
        feed(u, 40);
        is("seats and guests", u.seating(4, 1, NONE), -1000000);
        says("then a FAULT, then -2, then -3 and so on (but where a call tells otherwise)");
        is("no such n ahead of a fault", u.law(21), NONE);
        is("a fault", u.law(20), -1000);
        is("-2 ahead of -3", at(0, 4).passes(0, 1, 1), -2);
        is("-3", at(0, 2).passes(0, 1, 1), -3);
        is("where it tells otherwise", at(0, 4).smuggled(0, 1, 16), -2);
        says("in rumour() -3 ahead of -2");
        is("up and never", at(NONE, 0).rumour(0, 0, 1), -3);
        is("no such minute and never", at(0, NONE).rumour(0, 100, 1), -3);
        is("never", at(0, NONE).rumour(0, 0, 1), -2);
        says("The constants: `NONE = -1`: There is none");
        is("NONE", BorderTable.NONE, -1);
    }

    public static void main(String[] args) throws Exception {
        terms();
        TermsLaw.all();
        TermsFaults.all();
        rain();
        speeches();
        smuggling();
        sums();
        exchanging();
        homes();
        knives();
        plates();
        drawing();
        keeping();
        rules();
        close();
        end();
    }
}
