import java.util.Objects;

/** Counts and prints what is not as it is due; every test ends with done(). */
final class Check {
    private static final String NO_MATCH = "IllegalStateException-IllegalStateException";
    private static int wrong = 0;
    private static int checks = 0;

    private Check() {
    }

    interface Call {
        Object answer();
    }

    static void due(String what, Object got, Object want) {
        checks++;
        if (!Objects.equals(got, want)) {
            wrong++;
            System.out.println(what + " answered " + got + ", due is " + want);
        }
    }

    /** What a call answers, or the simple name of the exception that it throws. */
    static Object answer(Call call) {
        try {
            return call.answer();
        } catch (RuntimeException e) {
            return e.getClass().getSimpleName();
        }
    }

    static void due(String what, Call call, Object want) {
        due(what, answer(call), want);
    }

    static void fill(PatternMatcher x, int row, String s) {
        due("clear(" + row + ")", x.clear(row), true);
        for (char c : s.toCharArray()) {
            due("type(" + row + ", '" + c + "')", x.type(row, c), true);
        }
    }

    /** A new object with the pattern compiled and the text typed. */
    static PatternMatcher with(String pattern, String text) {
        PatternMatcher x = new PatternMatcher();
        fill(x, 0, pattern);
        fill(x, 1, text);
        Object groups = answer(x::compile);
        if (!(groups instanceof Integer)) {
            due("compile() of " + pattern, groups, "a number");
        }
        return x;
    }

    /** The match as spans() tells it; - if there is none. */
    static String match(PatternMatcher x) {
        String spans = spans(x);
        return spans.startsWith(NO_MATCH) ? "-" : spans;
    }

    /** The match as text: from-to of the groups 0 .. n, a dot for no span. */
    static String spans(PatternMatcher x) {
        StringBuilder s = new StringBuilder();
        for (int group = 0; group <= 4; group++) {
            int g = group;
            Object from = answer(() -> x.start(g));
            Object to = answer(() -> x.end(g));
            if (from.equals("IndexOutOfBoundsException") && to.equals(from)) {
                break;
            }
            s.append(group == 0 ? "" : " ").append(from.equals(-1) && to.equals(-1) ? "." : from + "-" + to);
        }
        return s.toString();
    }

    /** What the latest replace() made, read up to the first character that is not there. */
    static String made(PatternMatcher x) {
        StringBuilder s = new StringBuilder();
        Object c = answer(() -> x.replaced(0));
        while (c instanceof Character) {
            s.append(c);
            c = answer(() -> x.replaced(s.length()));
        }
        due("replaced(" + s.length() + "), which is behind the end", c, "IndexOutOfBoundsException");
        return s.toString();
    }

    /** The pieces of the latest split() as from-to, read up to the first that is not there. */
    static String pieces(PatternMatcher x) {
        StringBuilder s = new StringBuilder();
        Object from = answer(() -> x.piece(0, 0));
        int count = 0;
        while (from instanceof Integer) {
            int k = count;
            s.append(k == 0 ? "" : " ").append(from).append('-').append(answer(() -> x.piece(k, 1)));
            count++;
            from = answer(() -> x.piece(k + 1, 0));
        }
        due("piece(" + count + ", 0), which is behind the last", from, "IndexOutOfBoundsException");
        return s.toString();
    }

    static void done() {
        System.out.println(wrong == 0 ? checks + " answers are as due" : wrong + " answers are not as due");
        if (wrong != 0) {
            System.exit(1);
        }
    }
}
