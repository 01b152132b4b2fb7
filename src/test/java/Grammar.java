/** The grammar of a query as the document writes it, read by descent: for the tests, to compare with. */
final class Grammar {
    private static final int NO = -1;
    private final int[] tokens;

    private Grammar(int[] tokens) {
        this.tokens = tokens;
    }

    static boolean isQuery(int... tokens) {
        return new Grammar(tokens).path(0, 0, 0) == tokens.length;
    }

    // Each of these answers the place behind what it reads from a place on, or NO.

    private int path(int at, int brackets, int parens) {
        int end = step(at, brackets, parens);
        while (end != NO && isAxis(token(end))) {
            end = step(end, brackets, parens);
        }
        return end;
    }

    private int step(int at, int brackets, int parens) {
        if (!isAxis(token(at)) || token(at + 1) < 40 || token(at + 1) > 48) {
            return NO;
        }
        int end = at + 2;
        while (end != NO && token(end) == 1) {
            if (brackets == 3) {
                return NO;
            }
            end = expect(or(end + 1, brackets + 1, parens), 2);
        }
        return end;
    }

    private int or(int at, int brackets, int parens) {
        int end = and(at, brackets, parens);
        while (end != NO && token(end) == 6) {
            end = and(end + 1, brackets, parens);
        }
        return end;
    }

    private int and(int at, int brackets, int parens) {
        int end = not(at, brackets, parens);
        while (end != NO && token(end) == 5) {
            end = not(end + 1, brackets, parens);
        }
        return end;
    }

    private int not(int at, int brackets, int parens) {
        return token(at) == 7 ? not(at + 1, brackets, parens) : atom(at, brackets, parens);
    }

    private int atom(int at, int brackets, int parens) {
        switch (token(at)) {
            case 3:
                return parens == 4 ? NO : expect(or(at + 1, brackets, parens + 1), 4);
            case 8:
            case 10:
                return comparison(at + 1);
            case 9:
                return at + 1;
            case 11:
                return comparison(path(at + 1, brackets, parens));
            default:
                return path(at, brackets, parens);
        }
    }

    private int comparison(int at) {
        boolean compares = at != NO && token(at) >= 12 && token(at) <= 14;
        return compares && token(at + 1) >= 1000 && token(at + 1) <= 3000 ? at + 2 : NO;
    }

    private int expect(int at, int due) {
        return at != NO && token(at) == due ? at + 1 : NO;
    }

    private int token(int at) {
        return at < tokens.length ? tokens[at] : 0;
    }

    private static boolean isAxis(int token) {
        return token >= 20 && token <= 30;
    }
}
