/** What the tests by hand share: asking what is due, feeding tapes, setting tables. */
abstract class Asking {
    static final int NONE = BorderTable.NONE;
    static final int MOST = Integer.MAX_VALUE;
    static final int LEAST = Integer.MIN_VALUE;

    private static int wrong;
    private static int asked;

    static void due(String what, long got, long want) {
        asked++;
        if (got != want) {
            wrong++;
            System.out.println(what + ": answered " + got + ", due is " + want);
        }
    }

    static void due(String what, boolean got, boolean want) {
        due(what, got ? 1 : 0, want ? 1 : 0);
    }

    /** What a main method says at last. */
    static void end() {
        System.out.println(wrong == 0 ? asked + " answers are as due" : wrong + " answers are not as due");
        if (wrong != 0) {
            System.exit(1);
        }
    }

    /** Feeds bytes, with what makes the last row of twenty full. */
    static void feed(BorderTable t, int... bytes) {
        for (int at = 0; at < bytes.length; at += 20) {
            int[] w = new int[5];
            for (int k = 0; k < 20; k++) {
                w[k / 4] = w[k / 4] << 8 | (at + k < bytes.length ? bytes[at + k] : 'a');
            }
            t.feed(w[0], w[1], w[2], w[3], w[4]);
        }
    }

    static int law(BorderTable t, String text) {
        feed(t, text.chars().toArray());
        return t.law(text.length());
    }

    /** Feeds numbers of four bytes. */
    static void numbers(BorderTable t, int... n) {
        for (int at = 0; at < n.length; at += 5) {
            int[] w = new int[5];
            System.arraycopy(n, at, w, 0, Math.min(5, n.length - at));
            t.feed(w[0], w[1], w[2], w[3], w[4]);
        }
    }

    /** A table with guests at these seats; of land 0 at side 0, of land 1 at side 1 (no strays). */
    static BorderTable at(int... seats) {
        BorderTable t = new BorderTable();
        for (int seat : seats) {
            t.guest(seat == NONE ? 0 : seat % 2, seat);
        }
        return t;
    }

    /** Guests of land 0 at the first places of side 0. */
    static BorderTable row(int guests) {
        BorderTable t = new BorderTable();
        for (int g = 0; g < guests; g++) {
            t.guest(0, 2 * g);
        }
        return t;
    }

    /** A table that was searched for: each best EXCHANGE opens a next one, 52 in all. */
    static BorderTable fiftyTwo() {
        int[] seats = {16, 28, 25, 9, 36, 26, 21, 15, 34, 1, 12, 23, 31, 17, 8, 7};
        String likings = "jerraemrhqgaloqkcdcrelpjsimfpmgqocbminpjknqkfcgkhqfoocabcqqarpqf"
                + "fejneoepeakfcldforsrcmqsmpbpcqefpkjasppihsoihmcdkbmdgcfmgqemghep"
                + "soegokfgncfehhkeedjsiaajgeifrsolshbmeefkfljjibqsibglgngkckmksjmr"
                + "kakghqrhgmjmarlijecfgnenpcelqnodlpjdhbfbdrcopaojinrrlmodnrnlqlge";
        BorderTable t = new BorderTable();
        for (int seat : seats) {
            t.guest(0, seat);
        }
        for (int k = 0; k < 256; k++) {
            t.liking(k / 16, k % 16, likings.charAt(k) - 'a' - 9);
        }
        law(t, "h[f*7+g*38+s*91+t*54+l*5+m*8]%26-d*1(1=1);w[f*32+s*19+f*s*76]%178-41(1=1)");
        return t;
    }

    /** A seed from which the first number drawn is of this guest and way. */
    static int seedFor(int guest, int way) {
        int x = 0;
        while ((25173L * x + 13849) % 65536 % 16 != guest || (25173L * x + 13849) % 65536 / 16 % 3 != way) {
            x++;
        }
        return x;
    }
}
