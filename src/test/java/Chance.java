/** Numbers that look like chance, the same in every run, and texts of laws made by them. */
final class Chance {
    private long state;

    Chance(long seed) {
        state = seed * 7919 + 17;
        below(2);
    }

    int below(int n) {
        state = state * 6364136223846793005L + 1442695040888963407L;
        return (int) ((state >>> 33) % n);
    }

    int word() {
        return below(65536) << 16 | below(65536);
    }

    int from(int low, int high) {
        return low + below(high - low + 1);
    }

    boolean one(int in) {
        return below(in) == 0;
    }

    char of(String s) {
        return s.charAt(below(s.length()));
    }

    /** A law that is most often right; about one in four is spoilt somewhere. */
    String law() {
        StringBuilder t = new StringBuilder();
        int clauses = one(12) ? from(10, 16) : from(1, 5);
        boolean small = clauses > 8;
        for (int k = 0; k < clauses; k++) {
            if (k > 0) {
                t.append(';');
            }
            char kind = of("pwhvhvw");
            t.append(kind);
            if (kind != 'p') {
                if (small) {
                    t.append(from(0, 99));
                } else {
                    sum(t, 0);
                }
            }
            t.append('(');
            if (small) {
                t.append(of("fgabstlmdo")).append(of("<>=")).append(below(10));
            } else {
                condition(t, 1);
            }
            t.append(')');
        }
        while (one(4) && t.length() > 0) {
            int at = below(t.length());
            if (one(2)) {
                t.deleteCharAt(at);
            } else {
                t.insert(at, of("pwhvfgabstlmdo0123456789+-*/%<>=!&|()[]; x"));
            }
        }
        t.setLength(Math.min(t.length(), 200));
        return t.length() == 0 ? "p" : t.toString();
    }

    /** A law that leaves nobody untouched: every harm, worth and passing has a number of its own. */
    String richLaw() {
        StringBuilder t = new StringBuilder();
        if (one(3)) {
            t.append("p[f*").append(below(90)).append("+g*").append(below(90)).append("+s]%5<").append(from(2, 4))
                    .append("&1=1);");
            t.insert(1, '(');
        }
        t.append("h[f*").append(below(90)).append("+g*").append(below(90)).append("+s*").append(below(90))
                .append("+t*").append(below(90)).append("]%").append(from(3, 120)).append("-l(d<3|o=0);");
        t.append("w[f*").append(below(90)).append("+s*").append(below(90)).append("]%").append(from(3, 220))
                .append("-").append(below(100)).append("(!s=").append(below(20)).append(");");
        t.append("v[f*").append(below(90)).append("+s*").append(below(90)).append("+t*").append(below(90))
                .append("]%").append(from(3, 1100)).append("(1=1)");
        return t.toString();
    }

    private void condition(StringBuilder t, int depth) {
        int parts = one(3) ? 2 : 1;
        for (int k = 0; k < parts; k++) {
            if (k > 0) {
                t.append('|');
            }
            int pieces = one(3) ? 2 : 1;
            for (int i = 0; i < pieces; i++) {
                if (i > 0) {
                    t.append('&');
                }
                piece(t, depth);
            }
        }
    }

    private void piece(StringBuilder t, int depth) {
        if (one(6)) {
            t.append('!');
            piece(t, depth + 1);
        } else if (one(5)) {
            t.append('(');
            condition(t, depth + 1);
            t.append(')');
        } else {
            sum(t, depth);
            t.append(of("<>="));
            sum(t, depth);
        }
    }

    private void sum(StringBuilder t, int depth) {
        factor(t, depth);
        while (one(3)) {
            t.append(of("+-*/%+-*"));
            factor(t, depth);
        }
    }

    private void factor(StringBuilder t, int depth) {
        if (one(8)) {
            t.append('[');
            sum(t, depth + 1);
            t.append(']');
        } else if (one(3)) {
            t.append(one(8) ? word() >>> 1 & 131071 : one(2) ? below(4) : below(1200));
        } else {
            t.append(of("fgabstlmdolmdstab"));
        }
    }
}
