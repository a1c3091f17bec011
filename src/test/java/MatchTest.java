/** Promises 5 to 9: matches, looking, find, start and end, and the order in which ways are tried. */
public final class MatchTest {
    /** Pattern, text, the spans of find(0): from-to of the groups 0 .. n, a dot for none; - for no match. */
    private static final String[][] FOUND = {
        // characters, ., classes
        {"", "", "0-0"}, {"", "ab", "0-0"}, {"a", "", "-"}, {"b", "ab", "1-2"}, {"ab", "aab", "1-3"}, {".", " ", "0-1"},
        {".", "", "-"}, {"\\d", "a/:5", "3-4"}, {"\\d+", "x0123456", "1-8"}, {"\\d", "789", "0-1"},
        {"\\w+", "@AZaz09_", "1-8"},
        {"\\w", "/:@[^`{~", "-"}, {"[a-c]", "`dc", "2-3"}, {"[^a-c]", "abcd", "3-4"}, {"[^a]", "a", "-"},
        {"[^a]", "", "-"},
        {"[\\d_]+", "a1_2b", "1-4"}, {"[^\\w]", "a_9-", "3-4"}, {"[\\]\\[]+", "a][b", "1-3"}, {"[.]", "a.", "1-2"},
        {"\\.", "a.", "1-2"},
        {"a-c", "b a-c", "2-5"}, {"[^\\d\\-]+", "1-x y-2", "2-5"},
        // places
        {"^", "ab", "0-0"}, {"$", "ab", "2-2"}, {"^b", "ab", "-"}, {"a$", "aa", "1-2"}, {"^$", "", "0-0"},
        {"^$", "a", "-"},
        {"$a", "a", "-"}, {"\\b", "", "-"}, {"\\B", "", "0-0"}, {"\\b", " a", "1-1"}, {"\\B", "ab", "1-1"},
        {"\\B", "a", "-"},
        {"a\\b", "aa", "1-2"}, {"\\B", "-", "0-0"}, {"\\b", "--", "-"}, {"\\b_", "a_-_", "3-4"}, {"^*a", "aa", "0-1"},
        {"\\b9", "a9 9", "3-4"},
        // choices come in their order
        {"a|ab", "ab", "0-1"}, {"ab|a", "ab", "0-2"}, {"|a", "a", "0-0"}, {"a|", "b", "0-0"},
        {"(a|ab)c", "abc", "0-3 0-2"},
        {"(a|ab)(c|bcd)", "abcd", "0-4 0-1 1-4"}, {"b|a|c", "ca", "0-1"}, {"(a)|(b)", "b", "0-1 . 0-1"},
        {"(a)|b", "b", "0-1 ."},
        {"(?:a|ab)$", "ab", "0-2"}, {"(|a|b)c", "bc", "0-2 0-1"},
        // greedy, lazy, possessive
        {"a*", "aab", "0-2"}, {"a*?", "aab", "0-0"}, {"a+?", "aab", "0-1"}, {"a*?b", "aab", "0-3"},
        {"a?", "a", "0-1"}, {"a??", "a", "0-0"},
        {"a??b", "ab", "0-2"}, {"a{2}", "aaa", "0-2"}, {"a{2,}", "aaaaa", "0-5"}, {"a{2,3}", "aaaaa", "0-3"},
        {"a{2,3}?", "aaaaa", "0-2"},
        {"a{2,}?", "aaaaa", "0-2"}, {"a{3}", "aa", "-"}, {"a{4,}", "aaa", "-"}, {"a{0}", "a", "0-0"},
        {"a{0,0}", "a", "0-0"},
        {"a{0,4}", "aaaaaaaa", "0-4"}, {"a{4}", "aaaaaaaa", "0-4"}, {"a{4,}", "aaaaaaaa", "0-8"},
        {"a*a", "aaa", "0-3"}, {"a*+a", "aaa", "-"},
        {"a++b", "aab", "0-3"}, {"a?+a", "a", "-"}, {"a?+a", "aa", "0-2"}, {"a{2}+a", "aaa", "0-3"},
        {"a{1,2}+a", "aa", "-"},
        {".*?b", "abab", "0-2"}, {".*b", "abab", "0-4"}, {".*+b", "abab", "-"}, {"(a|ab)++c", "abc", "-"},
        {"(a|b)++c", "abc", "0-3 1-2"},
        {"(a*)(a*)", "aa", "0-2 0-2 2-2"}, {"(a*?)(a*)", "aa", "0-2 0-0 0-2"}, {"(a+)(a+)", "aaa", "0-3 0-2 2-3"},
        {"(?:ab){2,3}", "abababab", "0-6"}, {"a{2}?a", "aaa", "0-3"},
        // spans stay from one time to the next
        {"((a)|b)*", "ab", "0-2 1-2 0-1"}, {"((a)|(b))*", "aba", "0-3 2-3 2-3 1-2"}, {"(a|b)*", "abc", "0-2 1-2"},
        {"(a)*", "b", "0-0 ."},
        {"(?:(a)|b)*", "ab", "0-2 0-1"}, {"((a)?b)*", "abb", "0-3 2-3 0-1"},
        // a loop goes on behind a time that took nothing only up to its least
        {"()*", "a", "0-0 0-0"}, {"(a*)*", "b", "0-0 0-0"}, {"(a*)*", "aa", "0-2 2-2"}, {"(a*)+", "aa", "0-2 2-2"},
        {"(a|){4}", "aa", "0-2 2-2"},
        {"(|a)*", "aa", "0-0 0-0"}, {"(|a)+", "aa", "0-0 0-0"}, {"(|a){2}", "aa", "0-0 0-0"},
        {"(|a){2}$", "aa", "0-2 1-2"}, {"(|a)*$", "aa", "0-2 2-2"},
        {"(|a)*?$", "aa", "0-2 1-2"}, {"(?:|a)*", "aa", "0-0"}, {"(|a){3}$", "aa", "0-2 1-2"},
        {"(|a){2,}$", "aaa", "0-3 3-3"},
        {"(|a){3,}$", "aaaa", "0-4 4-4"}, {"(a??)*", "aa", "0-0 0-0"}, {"(a??)*$", "aa", "0-2 2-2"},
        {"(a?){4}", "a", "0-1 1-1"},
        {"(a*)??", "a", "0-0 ."}, {"(a*)*?$", "a", "0-1 0-1"}, {"(\\b)*a", "a", "0-1 0-0"}, {"(){0}", "", "0-0 ."},
        {"(){3}", "", "0-0 0-0"},
        // back references
        {"(a)\\1", "aa", "0-2 0-1"}, {"(a)\\1", "ab", "-"}, {"(a*)\\1", "aaaaa", "0-4 0-2"},
        {"(.+)\\1", "xabab", "1-5 1-3"}, {"(a)|\\1", "b", "-"},
        {"()\\1", "b", "0-0 0-0"}, {"(a)?\\1", "b", "-"}, {"(a\\1)", "aa", "-"}, {"(a|b\\1)*", "aba", "0-3 1-3"},
        {"(a|b\\1)+c", "abac", "0-4 1-3"},
        {"(a)(b)\\2\\1", "abba", "0-4 0-1 1-2"}, {"((a)b\\2)", "aba", "0-3 0-3 0-1"},
        {"(.)(.)\\1*\\2", "abaab", "0-5 0-1 1-2"}, {"(aB)\\1", "aBab", "-"},
        {"(a*)b\\1$", "aaba", "1-4 1-2"}, {"(a)\\1+", "aaaa", "0-4 0-1"}, {"()\\1*a", "a", "0-1 0-0"},
        {"(?!(a))\\1", "ba", "-"},
        // atomic
        {"(?>a|ab)c", "abc", "-"}, {"(?>ab|a)c", "abc", "0-3"}, {"(?>a*)a", "aa", "-"}, {"(?>a*?)a", "aa", "0-1"},
        {"(?>(a)|b)", "a", "0-1 0-1"},
        {"(?>a*)*b", "aab", "0-3"}, {"(?>(a+))b|a", "aa", "0-1 ."}, {"(?>)a", "a", "0-1"},
        // ahead
        {"a(?=b)", "aab", "1-2"}, {"a(?!b)", "aba", "2-3"}, {"(?=(a+))a", "aa", "0-1 0-2"},
        {"(?=(a|ab))ab", "ab", "0-2 0-1"}, {"(?=(a*))\\1b", "aab", "0-3 0-2"},
        {"(?=(a|ab))\\1c", "abc", "-"}, {"(?!(a))b", "b", "0-1 ."}, {"(?!(a)b)a", "aa", "0-1 ."},
        {"(?=a)*a", "a", "0-1"}, {"(?!)", "", "-"}, {"(?=)", "", "0-0"},
        {"(?=.*b)a", "aab", "0-1"}, {"(?=(a))?", "a", "0-0 0-1"}, {"(?!a)+.", "ab", "1-2"}, {"(?=a$)", "aa", "1-1"},
        {"(a)(?!\\1)", "aab", "1-2 1-2"},
        {"(?=(?=(a)))b|a", "a", "0-1 ."},
        // behind
        {"(?<=a)b", "bab", "2-3"}, {"(?<!a)b", "abb", "2-3"}, {"(?<=^)b", "ab", "-"}, {"(?<=ab|b)c", "bc", "1-2"},
        {"(?<=(a|ba))c", "bac", "2-3 1-2"},
        {"(?<=(ba|a))c", "bac", "2-3 1-2"}, {"(?<=(a{0,4}))b", "aab", "2-3 2-2"}, {"(?<=(a?))b", "ab", "1-2 1-1"},
        {"(?<=(a{1,2}))b", "aab", "2-3 1-2"},
        {"(?<=^(a{2}))b", "aab", "2-3 0-2"}, {"(?<=)a", "a", "0-1"}, {"(?<!)a", "a", "-"}, {"(?<!^)a", "aa", "1-2"},
        {"(?<!(b))a", "a", "0-1 ."},
        {"(?<=a(?=b))", "ab", "1-1"}, {"(?<=a(?=b).)c", "abc", "2-3"}, {"(?<=a$)", "aa", "2-2"},
        {"(?<=\\b)a", "ba a", "3-4"}, {"(?<=(a)|b)c", "bc", "1-2 ."},
        {"(?<=(?<=a)b)c", "bcabc", "4-5"}, {"(?<=(.){3})d", "abcd", "3-4 2-3"}, {"(?<=a|(b))c", "bc", "1-2 0-1"},
        {"(?<=(|a))b", "ab", "1-2 1-1"},
        {"(?<=a??)b", "ab", "1-2"}, {"(?<=(?>a|ab))c", "abc", "-"},
    };

    /** Pattern, text, the spans of matches(), those of looking(). */
    private static final String[][] WHOLE = {
        {"", "", "0-0", "0-0"}, {"", "a", "-", "0-0"}, {"a", "", "-", "-"}, {"a|ab", "ab", "0-2", "0-1"},
        {"a*?", "aa", "0-2", "0-0"}, {"b", "ab", "-", "-"},
        {"(a|ab)(b?)", "ab", "0-2 0-1 1-2", "0-2 0-1 1-2"}, {"(a|ab)(b??)", "ab", "0-2 0-1 1-2", "0-1 0-1 1-1"},
        {"(?>a|ab)", "ab", "-", "0-1"}, {"a++|ab", "ab", "0-2", "0-1"},
        {"(a??)(b|)*", "ab", "0-2 0-1 2-2", "0-0 0-0 0-0"}, {"(a*?)(a*?)", "aa", "0-2 0-0 0-2", "0-0 0-0 0-0"},
        {"a(?=b)", "ab", "-", "0-1"}, {"a(?=b).", "ab", "0-2", "0-2"},
        {"(a*)a*\\1", "aaa", "0-3 0-1", "0-3 0-1"}, {"((a)|b)*a*\\2", "aaa", "0-3 1-2 1-2", "0-3 1-2 1-2"},
        {"(|a|ab)", "ab", "0-2 0-2", "0-0 0-0"}, {"((((a))))", "a", "0-1 0-1 0-1 0-1 0-1", "0-1 0-1 0-1 0-1 0-1"},
        {"(?=a*?)a", "a", "0-1", "0-1"}, {".{4}.{4}", "abcdefgh", "0-8", "0-8"},
    };

    /** Dear patterns: loops in loops whose ways could not all be tried one by one. */
    private static final String[][] DEAR = {
        {"((((a*)*)*)*)*", "aaaaaaab", "0-7 7-7 7-7 7-7 7-7"}, {"(((a*)*)*)*b", "aaaaaaaa", "-"},
        {"((((a+)+)+)+)+", "aaaaaaab", "0-7 0-7 0-7 0-7 0-7"}, {"(((a+)+)+)+b", "aaaaaaaa", "-"},
        {"((a*){4,}){4,}", "aaaaaaab", "0-7 7-7 7-7"}, {"((a*)*)*\\1\\2b", "aaaaaaaa", "-"},
        {"((a*)*\\1*\\2)*b", "aaaaaaaa", "-"}, {"((|a){4,}){4,}", "aaaaaaaa", "0-0 0-0 0-0"},
        {"((|a){4,}){4}$", "aaaaaaaa", "0-8 0-8 8-8"}, {"(?=((a*)*)*b)", "aaaaaaaa", "-"},
        {"(((a|a)*)*)*b", "aaaaaaaa", "-"}, {"((a*)*a*)*\\2\\1", "aaaaaaab", "0-7 7-7 7-7"},
    };

    public static void main(String[] args) {
        for (String[] row : FOUND) {
            found(row[0], row[1], row[2]);
        }
        for (String[] row : DEAR) {
            found(row[0], row[1], row[2]);
            boolean whole = row[1].endsWith("a") && !row[2].equals("-");
            Check.due("matches() of " + row[0] + " with " + row[1], Check.with(row[0], row[1]).matches(), whole);
        }
        for (String[] row : WHOLE) {
            PatternMatcher x = Check.with(row[0], row[1]);
            spans("matches() of " + row[0] + " with " + row[1], x, x.matches(), row[2]);
            spans("looking() of " + row[0] + " with " + row[1], x, x.looking(), row[3]);
        }
        findFrom();
        groups();
        whatEndsAMatch();
        exceptions();
        Check.done();
    }

    private static void found(String pattern, String text, String want) {
        PatternMatcher x = Check.with(pattern, text);
        int found = x.find(0);
        spans("find(0) of " + pattern + " in " + text, x, found >= 0, want);
        if (found >= 0) {
            String from = want.substring(0, want.indexOf('-'));
            Check.due("find(0) of " + pattern + " in " + text, "" + found, from);
        }
    }

    private static void spans(String what, PatternMatcher x, boolean answer, String want) {
        Check.due(what, answer, !want.equals("-"));
        Check.due(what + ", spans", Check.match(x), want);
    }

    private static void findFrom() {
        PatternMatcher x = Check.with("^a|(?<=b)a|b$", "abaab");
        int[] want = {0, 2, 2, 4, 4, -1};
        for (int from = 0; from <= 5; from++) {
            Check.due("find(" + from + ")", x.find(from), want[from]);
        }
        Check.due("start(0) after find(5) that found none", () -> x.start(0), "IllegalStateException");
        Check.due("find(3)", x.find(3), 4);
        Check.due("find(3), spans", Check.spans(x), "4-5");
        Check.due("find(0) goes by no match before it", x.find(0), 0);
        PatternMatcher y = Check.with("$", "ab");
        Check.due("find(2) at the last place", y.find(2), 2);
        PatternMatcher z = Check.with("a*", "baa");
        Check.due("find(0) that is empty", z.find(0), 0);
        Check.due("find(0) that is empty, end(0)", z.end(0), 0);
        Check.due("find(2) within the a's", z.find(2), 2);
        Check.due("find(2), end(0)", z.end(0), 3);
    }

    private static void groups() {
        PatternMatcher x = Check.with("(a)|(b)(c)", "bc");
        Check.due("matches()", x.matches(), true);
        int[] starts = {0, -1, 0, 1};
        int[] ends = {2, -1, 1, 2};
        for (int group = 0; group < 4; group++) {
            Check.due("start(" + group + ")", x.start(group), starts[group]);
            Check.due("end(" + group + ")", x.end(group), ends[group]);
        }
        for (int group : new int[] {-1, 4, 5, 10, Integer.MIN_VALUE, Integer.MAX_VALUE}) {
            Check.due("start(" + group + ")", () -> x.start(group), "IndexOutOfBoundsException");
            Check.due("end(" + group + ")", () -> x.end(group), "IndexOutOfBoundsException");
        }
        Check.due("start(0) after those", x.start(0), 0);
    }

    private static void whatEndsAMatch() {
        PatternMatcher x = Check.with("(a)b?", "aaaaaaa");
        x.find(1);
        Check.fill(x, 2, "x");
        x.clear(0);
        x.type(0, 'b');
        x.length(1);
        Check.due("spans after other rows were typed", Check.spans(x), "1-2 1-2");
        Check.due("type(1, (char) 31)", x.type(1, (char) 31), false);
        Check.due("spans after a refused character", Check.spans(x), "1-2 1-2");
        Check.due("type(1, 'b')", x.type(1, 'b'), true);
        Check.due("start(0) after type(1, 'b')", () -> x.start(0), "IllegalStateException");
        x.find(1);
        Check.due("type(1, 'b') into the full text", x.type(1, 'b'), false);
        Check.due("spans after a full text", Check.spans(x), "1-2 1-2");
        Check.due("matches()", x.matches(), false);
        Check.due("start(0) after matches() that is false", () -> x.start(0), "IllegalStateException");
        x.find(1);
        x.clear(1);
        Check.due("start(0) after clear(1)", () -> x.start(0), "IllegalStateException");
        Check.due("end(1) after clear(1)", () -> x.end(1), "IllegalStateException");
        Check.fill(x, 1, "ba");
        x.find(0);
        Check.due("looking()", x.looking(), false);
        Check.due("start(0) after looking() that is false", () -> x.start(0), "IllegalStateException");
    }

    private static void exceptions() {
        PatternMatcher x = Check.with("b", "abc");
        x.find(0);
        for (int from : new int[] {-1, 4, 9, Integer.MIN_VALUE, Integer.MAX_VALUE}) {
            Check.due("find(" + from + ")", () -> x.find(from), "IndexOutOfBoundsException");
            Check.due("spans after find(" + from + ")", Check.spans(x), "1-2");
        }
        PatternMatcher y = new PatternMatcher();
        Check.due("find(1), which is no place, and no pattern", () -> y.find(1), "IndexOutOfBoundsException");
        Check.due("find(0) and no pattern", () -> y.find(0), "IllegalStateException");
    }
}
