/** What the terms say of the LAW's FAULTS. */
final class TermsFaults extends Quoting {
    private static final String DIGITS = "0123456789";
    private static final String FACTOR = DIGITS + "fgabstlmdo[";

    private TermsFaults() {
    }

    /** Behind a beginning just these signs can stand. */
    private static void behind(String beginning, String signs) {
        BorderTable t = new BorderTable();
        int n = beginning.length();
        for (int c = 0; c < 256; c++) {
            int[] bytes = (beginning + (char) c).chars().toArray();
            feed(t, bytes);
            boolean refused = t.law(n + 1) == -1000 - n;
            is("behind " + beginning + " sign " + c, refused, signs.indexOf(c) < 0);
        }
    }

    private static void cannotStandThere() {
        says("FAULTS, the first from the left: 1 what can't stand there");
        behind("", "pwhv");
        behind("p", "(");
        for (String kind : new String[] {"w", "h", "v"}) {
            behind(kind, FACTOR);
            behind(kind + "1", DIGITS + "+-*/%(");
            behind(kind + "f", "+-*/%(");
            behind(kind + "12345", DIGITS + "+-*/%(");
            behind(kind + "[1]", "+-*/%(");
            behind(kind + "1+", FACTOR);
            behind(kind + "1*", FACTOR);
            behind(kind + "[", FACTOR);
            behind(kind + "[1", DIGITS + "+-*/%]");
            behind(kind + "[f", "+-*/%]");
            behind(kind + "1(", FACTOR + "!(");
        }
        for (String ahead : new String[] {"p(", "p(!", "p((", "p(1=1&", "p(1=1|", "p(!!", "p(!(", "v1("}) {
            behind(ahead, FACTOR + "!(");
            behind(ahead + "1", DIGITS + "+-*/%<>=");
            behind(ahead + "o", "+-*/%<>=");
            behind(ahead + "[1]", "+-*/%<>=");
            behind(ahead + "[1", DIGITS + "+-*/%]");
            behind(ahead + "1%", FACTOR);
            behind(ahead + "1=", FACTOR);
            behind(ahead + "1<", FACTOR);
            behind(ahead + "1>", FACTOR);
            behind(ahead + "1=f", "+-*/%&|)");
            behind(ahead + "1=1", DIGITS + "+-*/%&|)");
            behind(ahead + "1=[1]", "+-*/%&|)");
        }
        behind("p((1=1)", "&|)");
        behind("p(!(1=1)", "&|)");
        behind("p(1=1)", ";");
        behind("p((1=1))", ";");
        behind("p(1=1);", "pwhv");
        is("the first of two", law(new BorderTable(), "p(x=y)"), -1002);
        is("ahead of a sixth digit", law(new BorderTable(), "p(x=123456)"), -1002);
        says("(the end, too)");
        String whole = "w[1+f]*2(!(1=1|[s]<t)&1=1);p(1=1)";
        BorderTable t = new BorderTable();
        for (int n = 1; n <= whole.length(); n++) {
            boolean ends = n == whole.length() || n == whole.indexOf(';');
            is("the first " + n, law(t, whole.substring(0, n)), ends ? (n == whole.length() ? 2 : 1) : -1000 - n);
        }
    }

    private static void sixthDigit() {
        says("2 a sixth digit, at it");
        BorderTable t = new BorderTable();
        is("five", law(t, "p(99999=00000)"), 1);
        is("six", law(t, "p(999999=0)"), -2007);
        is("seven", law(t, "p(9999999=0)"), -2007);
        is("six on the right", law(t, "p(0=000000)"), -2009);
        is("in [ ]", law(t, "p([123456]=0)"), -2008);
        is("of an E", law(t, "h1+123456(1=1)"), -2008);
        is("at the end", law(t, "p(123456"), -2007);
        is("five and the end", law(t, "p(12345"), -1007);
        is("five and a letter", law(t, "p(12345f=0)"), -1007);
        is("five and five", law(t, "p(12345+12345=0)"), 1);
        is("the first from the left", law(t, "p(123456=x)"), -2007);
        is("behind what can't stand there", law(t, "p(x=123456)"), -1002);
    }

    private static void fifteenth() {
        says("4 a 15th CLAUSE, at its letter");
        BorderTable t = new BorderTable();
        String most = "p(1=1)" + ";p(1=1)".repeat(13);
        for (String kind : new String[] {"p", "w", "h", "v"}) {
            is("its letter alone, " + kind, law(t, most + ";" + kind), -4098);
        }
        is("a whole one", law(t, most + ";p(1=1)"), -4098);
        is("a spoilt one", law(t, most + ";px"), -4098);
        is("a 16th", law(t, most + ";p(1=1);p(1=1)"), -4098);
        is("fourteen", law(t, most), 14);
        is("longer ones", law(t, "w1(1=1);" + most.substring(7) + ";h"), -4099);
        is("a fault ahead of it", law(t, "p(1=)" + most.substring(6) + ";p"), -1004);
        says("(if that can stand there)");
        for (int c = 0; c < 256; c++) {
            feed(t, (most + ";" + (char) c).chars().toArray());
            is("sign " + c, t.law(99), "pwhv".indexOf(c) < 0 ? -1098 : -4098);
        }
        is("the end", law(t, most + ";"), -1098);
        is("no ;", law(t, most + "p"), -1097);
    }

    private static void seventh() {
        says("5 a seventh of ( [ ! that are open in one another, at it");
        BorderTable t = new BorderTable();
        for (String six : new String[] {"p((((((", "p(!!!!!", "p([[[[[", "p(!(!([", "p(((!![", "h1(((([["}) {
            int n = six.length();
            boolean piece = !six.endsWith("[");
            is(six + " and [", law(t, six + "["), -5000 - n);
            is(six + " and (", law(t, six + "("), piece ? -5000 - n : -1000 - n);
            is(six + " and !", law(t, six + "!"), piece ? -5000 - n : -1000 - n);
            is(six + " and a number", law(t, six + "1"), -1000 - n - 1);
        }
        is("a seventh that can't stand there", law(t, "p((((((1("), -1008);
        is("the first from the left", law(t, "p(((((((x"), -5007);
        says("(the ( of the CLAUSE counts");
        is("five within", law(t, "p((((((1=1))))))"), 1);
        is("six within", law(t, "p(((((((1=1)))))))"), -5007);
        says("a ! is open till its PIECE ends");
        is("five", law(t, "p(!!!!!1=1)"), 1);
        is("six", law(t, "p(!!!!!!1=1)"), -5007);
        is("( in the piece", law(t, "p(!!!!!(1=1))"), -5007);
        is("[ in the piece, ahead of the sign", law(t, "p(!!!!![1]=1)"), -5007);
        is("[ in the piece, behind the sign", law(t, "p(!!!!!1=[1])"), -5009);
        is("behind its &", law(t, "p(!!!!!1=1&[[[[[1]]]]]=1)"), 1);
        is("behind its |", law(t, "p(!!!!!1=1|(((((1=1))))))"), 1);
        is("behind its )", law(t, "p((!!!!1=1)&(((((1=1))))))"), 1);
        is("behind its ;", law(t, "p(!!!!!1=1);p(!!!!!1=1)"), 2);
        is("of a (C) till its )", law(t, "p(!(!(1=1)&[[[1]]]=1))"), 1);
        is("of a (C) within its )", law(t, "p(!(!([1]=1)&[[[[1]]]]=1))"), -5016);
        says("the E of a CLAUSE stands ahead of it)");
        for (String kind : new String[] {"w", "h", "v"}) {
            is("six in its E, six in its C", law(t, kind + "[[[[[[1]]]]]]((((((1=1))))))"), 1);
            is("a seventh in its E", law(t, kind + "[[[[[[[1]]]]]]](1=1)"), -5007);
            is("a seventh in its C", law(t, kind + "[1](((((((1=1)))))))"), -5000 - 10);
        }
        is("closed ones don't count", law(t, "w[1]+[1]+[1]+[1]+[1]+[1]+[1]((1=1)&(1=1)&(1=1)&(1=1)&(1=1)&(1=1))"), 1);
    }

    static void all() {
        cannotStandThere();
        sixthDigit();
        fifteenth();
        seventh();
    }
}
