/** Promises 12 and 13: split and piece. */
public final class SplitTest {
    /** Pattern, text, the pieces as from-to. */
    private static final String[][] SPLIT = {
        {",", "a,b,c", "0-1 2-3 4-5"}, {",", "abc", "0-3"}, {",", "", "0-0"}, {",", ",a", "0-0 1-2"},
        {",", "a,", "0-1"}, {",", "a,,", "0-1"},
        {",", "a,,b", "0-1 2-2 3-4"}, {",", ",", ""}, {",", ",,,", ""}, {",", ",,a,,", "0-0 1-1 2-3"},
        {",+", "a,,b", "0-1 3-4"}, {"abc", "abc", ""},
        // an empty match at place 0 is left out
        {"", "", "0-0"}, {"", "a", "0-1"}, {"", "abc", "0-1 1-2 2-3"}, {"^", "ab", "0-2"}, {"^", "", "0-0"},
        {"$", "ab", "0-2"}, {"$", "", "0-0"},
        {"", "abcdefgh", "0-1 1-2 2-3 3-4 4-5 5-6 6-7 7-8"}, {"\\b", "ab cd", "0-2 2-3 3-5"}, {"^|,", "a,b", "0-1 2-3"},
        {"(?=b)", "abab", "0-1 1-3 3-4"}, {"(?<=b)", "abab", "0-2 2-4"}, {"(?=a)", "aa", "0-1 1-2"},
        // a match at place 0 that is not empty is not
        {"a*", "aab", "0-0 2-2 2-3"}, {"a*", "baa", "0-1"}, {"a*", "bab", "0-1 2-2 2-3"}, {"a*", "aa", ""},
        {"a*?", "aa", "0-1 1-2"}, {"a", "aba", "0-0 1-2"},
        {"x|", "xa", "0-0 1-1 1-2"},
    };

    public static void main(String[] args) {
        for (String[] row : SPLIT) {
            PatternMatcher x = Check.with(row[0], row[1]);
            Check.due("split() of " + row[1] + " by " + row[0], pieces(x, x.split()), row[2]);
        }
        noMatchThen();
        latestStays();
        noSuchPiece();
        Check.done();
    }

    private static String pieces(PatternMatcher x, int count) {
        StringBuilder s = new StringBuilder();
        for (int i = 0; i < count; i++) {
            int k = i;
            s.append(i == 0 ? "" : " ").append(Check.answer(() -> x.piece(k, 0)) + "-" + Check.answer(() -> x.piece(k, 1)));
        }
        Check.due("piece(" + count + ", 0), which is behind the last", () -> x.piece(count, 0), "IndexOutOfBoundsException");
        Check.due("piece(" + count + ", 1), which is behind the last", () -> x.piece(count, 1), "IndexOutOfBoundsException");
        return s.toString();
    }

    private static void noMatchThen() {
        for (String text : new String[] {"aba", "aaa", ""}) {
            PatternMatcher x = Check.with("b|^", text);
            x.find(0);
            x.split();
            Check.due("start(0) after split() of " + text, () -> x.start(0), "IllegalStateException");
            Check.due("length(1) after split()", x.length(1), text.length());
        }
    }

    private static void latestStays() {
        PatternMatcher x = Check.with(",", "a,b");
        Check.due("split()", x.split(), 2);
        Check.fill(x, 0, "b");
        Check.fill(x, 1, "q");
        x.compile();
        x.find(0);
        x.replace();
        Check.due("pieces after other calls", pieces(x, 2), "0-1 2-3");
        Check.due("split() again", x.split(), 1);
        Check.due("pieces of the latest", pieces(x, 1), "0-1");
        Check.fill(x, 1, "bb");
        Check.due("split() into nothing", x.split(), 0);
        Check.due("piece(0, 0) of nothing", () -> x.piece(0, 0), "IndexOutOfBoundsException");
        Check.due("split() without a pattern", new PatternMatcher()::split, "IllegalStateException");
    }

    private static void noSuchPiece() {
        PatternMatcher x = Check.with(",", "a,b");
        x.split();
        for (int what : new int[] {-1, 2, 3, Integer.MIN_VALUE, Integer.MAX_VALUE}) {
            Check.due("piece(0, " + what + ")", () -> x.piece(0, what), -1);
            Check.due("piece(1, " + what + ")", () -> x.piece(1, what), -1);
            Check.due("piece(2, " + what + ")", () -> x.piece(2, what), "IndexOutOfBoundsException");
        }
        for (int k : new int[] {-1, 2, 9, 10, 11, Integer.MIN_VALUE, Integer.MAX_VALUE}) {
            Check.due("piece(" + k + ", 0)", () -> x.piece(k, 0), "IndexOutOfBoundsException");
            Check.due("piece(" + k + ", 1)", () -> x.piece(k, 1), "IndexOutOfBoundsException");
        }
    }
}
