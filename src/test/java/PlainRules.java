import java.math.BigInteger;

/** FAULT by a row of open marks and a state, WORTH by splitting: another way than the program's. */
final class PlainRules {
    private PlainRules() {
    }

    // what may come next
    private static final int LABEL = 0;
    private static final int COLON = 1;
    private static final int START = 2;     // behind ':' : a CONDITION or a SUM
    private static final int UNIT = 3;      // a UNIT begins
    private static final int ATOM = 4;      // an ATOM begins
    private static final int AFTER = 5;     // behind an ATOM
    private static final int DONE = 6;      // behind a UNIT that ended with )

    // what the SUM at hand is
    private static final int OPEN = 0;      // a CLAUSE's SUM or the left side of its first UNIT
    private static final int LEFT = 1;
    private static final int RIGHT = 2;
    private static final int VALUE = 3;

    static int fault(String text) {
        StringBuilder open = new StringBuilder();
        int next = LABEL;
        int side = OPEN;
        int digits = 0;
        for (int i = 0; i < text.length(); i++) {
            char c = text.charAt(i);
            boolean digit = c >= '0' && c <= '9';
            if (digit && digits > 0) {
                if (++digits > 4) {
                    return i;
                }
                continue;
            }
            digits = 0;
            if (c == ' ') {
                continue;
            }
            boolean mark = "([!".indexOf(c) >= 0;
            if (mark && open.length() == 6) {
                return i;
            }
            if (next == LABEL) {
                if ("wrcu".indexOf(c) < 0) {
                    return i;
                }
                next = COLON;
            } else if (next == COLON) {
                if (c != ':') {
                    return i;
                }
                next = START;
                side = OPEN;
            } else if (next == START || next == UNIT || next == ATOM) {
                if (digit || "phoink".indexOf(c) >= 0) {
                    digits = digit ? 1 : 0;
                    side = next == UNIT ? LEFT : side;
                    next = AFTER;
                } else if (c == '[') {
                    side = next == UNIT ? LEFT : side;
                    open.append(c);
                    next = ATOM;
                } else if (mark && next != ATOM) {
                    open.append(c);
                    next = UNIT;
                } else {
                    return i;
                }
            } else {
                boolean inSquare = open.length() > 0 && open.charAt(open.length() - 1) == '[';
                if (next == AFTER && "+-*/".indexOf(c) >= 0) {
                    next = ATOM;
                    continue;
                }
                if (inSquare) {
                    if (c != ']') {
                        return i;
                    }
                    open.setLength(open.length() - 1);
                    continue;
                }
                if (next == AFTER && side <= LEFT && "=<>".indexOf(c) >= 0) {
                    side = RIGHT;
                    next = ATOM;
                    continue;
                }
                if (side == LEFT) {
                    return i;
                }
                if (side == OPEN || side == VALUE) {
                    if (c != ';') {
                        return i;
                    }
                    next = LABEL;
                    continue;
                }
                while (open.length() > 0 && open.charAt(open.length() - 1) == '!') {
                    open.setLength(open.length() - 1);
                }
                if (c == '&' || c == '|') {
                    next = UNIT;
                } else if (c == ')' && open.length() > 0) {
                    open.setLength(open.length() - 1);
                    next = DONE;
                } else if (c == '?' && open.length() == 0) {
                    next = ATOM;
                    side = VALUE;
                } else {
                    return i;
                }
            }
        }
        boolean ends = next == AFTER && open.length() == 0 && (side == OPEN || side == VALUE);
        return ends ? -1 : text.length();
    }

    static int worth(String text, char label, long[] letters) {
        for (String clause : text.split(";")) {
            String c = clause.replace(" ", "");
            if (c.charAt(0) != label) {
                continue;
            }
            String body = c.substring(2);
            int mark = body.indexOf('?');
            if (mark < 0 || holds(body.substring(0, mark), letters)) {
                return value(body.substring(mark + 1), letters).intValueExact();
            }
        }
        return 0;
    }

    /** Where one of the signs stands last outside of all brackets; -1. */
    private static int last(String text, String signs) {
        int depth = 0;
        for (int i = text.length() - 1; i >= 0; i--) {
            char c = text.charAt(i);
            if (c == ')' || c == ']') {
                depth++;
            } else if (c == '(' || c == '[') {
                depth--;
            } else if (depth == 0 && signs.indexOf(c) >= 0) {
                return i;
            }
        }
        return -1;
    }

    private static boolean holds(String text, long[] letters) {
        int i = last(text, "|");
        if (i >= 0) {
            return holds(text.substring(0, i), letters) | holds(text.substring(i + 1), letters);
        }
        i = last(text, "&");
        if (i >= 0) {
            return holds(text.substring(0, i), letters) & holds(text.substring(i + 1), letters);
        }
        if (text.charAt(0) == '!') {
            return !holds(text.substring(1), letters);
        }
        if (text.charAt(0) == '(') {
            return holds(text.substring(1, text.length() - 1), letters);
        }
        i = last(text, "=<>");
        int c = value(text.substring(0, i), letters).compareTo(value(text.substring(i + 1), letters));
        return c == (text.charAt(i) == '=' ? 0 : text.charAt(i) == '<' ? -1 : 1);
    }

    private static BigInteger value(String text, long[] letters) {
        int i = last(text, "+-");
        if (i < 0) {
            i = last(text, "*/");
        }
        if (i >= 0) {
            BigInteger a = value(text.substring(0, i), letters);
            BigInteger b = value(text.substring(i + 1), letters);
            BigInteger r;
            switch (text.charAt(i)) {
                case '+': r = a.add(b); break;
                case '-': r = a.subtract(b); break;
                case '*': r = a.multiply(b); break;
                default: r = b.signum() == 0 ? BigInteger.ZERO : a.divide(b); break;
            }
            return r.min(BigInteger.valueOf(1000000)).max(BigInteger.valueOf(-1000000));
        }
        if (text.charAt(0) == '[') {
            return value(text.substring(1, text.length() - 1), letters);
        }
        int letter = "phoink".indexOf(text.charAt(0));
        return letter >= 0 ? BigInteger.valueOf(letters[letter]) : new BigInteger(text);
    }
}
