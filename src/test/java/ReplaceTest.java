/** Promises 10 and 11: replace and replaced. */
public final class ReplaceTest {
    /** Pattern, text, template, what is made or the exception. */
    private static final String[][] REPLACED = {
        {"b", "abc", "x", "axc"}, {"b", "abcb", "", "ac"}, {"x", "abc", "-", "abc"}, {"x", "", "-", ""},
        {"", "", "-", "-"},
        {"", "abc", "-", "-a-b-c-"}, {"a", "aaa", "xy", "xyxyxy"}, {".", "abcdefgh", "", ""}, {"$", "ab", "!", "ab!"},
        {"^", "ab", "!", "!ab"},
        // the next match is looked for at the end of the one before, or one place on if that was empty
        {"a*", "baac", "-", "-b--c-"}, {"a*", "aa", "-", "--"}, {"a*?", "aa", "-", "-a-a-"},
        {"\\b", "ab c", "|", "|ab| |c|"},
        {"(?<=a)a", "aaa", "x", "axx"}, {"a|(?<=a)b", "abb", "x", "xxb"}, {"^a", "aaa", "x", "xaa"},
        {"a(?=a)", "aaa", "x", "xxa"},
        {"(?=a)|a", "aa", "x", "xaxa"}, {"ab|", "abab", "-", "---"}, {"aba", "ababa", "x", "xba"},
        // the template
        {"b", "abc", "$0$0", "abbc"}, {"(a)(b)", "abab", "$2$1", "baba"}, {"(a)|b", "ab", "<$1>", "<a><>"},
        {"(a)(b)?", "aab", "$2.", ".b."},
        {"(a)", "a", "$10", "a0"}, {"b", "b", "\\$0", "$0"}, {"b", "b", "\\\\", "\\"}, {"b", "b", "\\a\\1\\ ", "a1 "},
        {"b", "b", "\\$$0\\$", "$b$"},
        {"((((a))))", "a", "$1$2$3$4", "aaaa"}, {"b", "b", "a0.*|()[", "a0.*|()["}, {"()", "ab", "$1-", "-a-b-"},
        {"(?=(.*))", "abc", "$1;", "abc;abc;bc;c;"},
        {"(?=(.*))x|", "abc", "$0.", ".a.b.c."},
        {"(?=(.*))", "abcdefgh", "$1$1$1$1", "abcdefghabcdefghabcdefghabcdefgha" + "bcdefghbcdefghbcdefghbcdefghb" + "cdefghcdefghcdefghcdefghc"
            + "defghdefghdefghdefghd" + "efghefghefghefghe" + "fghfghfghfghf" + "ghghghghg" + "hhhhh"},
        {"", "abcdefgh", "12345678", "12345678a12345678b12345678c12345678d12345678e12345678f12345678g12345678h12345678"},
        // wrong templates, whether or not anything matches
        {"b", "b", "$", "IllegalArgumentException"}, {"b", "a", "a$", "IllegalArgumentException"},
        {"b", "b", "\\", "IllegalArgumentException"},
        {"b", "a", "a\\", "IllegalArgumentException"}, {"b", "b", "$a", "IllegalArgumentException"},
        {"b", "b", "$$", "IllegalArgumentException"},
        {"b", "b", "$-1", "IllegalArgumentException"}, {"b", "b", "$\\0", "IllegalArgumentException"},
        {"b", "b", "$/", "IllegalArgumentException"},
        {"b", "b", "$:", "IllegalArgumentException"}, {"b", "b", "$ 0", "IllegalArgumentException"},
        {"b", "b", "\\\\\\", "IllegalArgumentException"},
        {"b", "b", "$1", "IndexOutOfBoundsException"}, {"b", "a", "$1", "IndexOutOfBoundsException"},
        {"(a)", "a", "$2", "IndexOutOfBoundsException"},
        {"()()()()", "a", "$4$5", "IndexOutOfBoundsException"}, {"b", "b", "$9", "IndexOutOfBoundsException"},
        {"b", "", "x$9x", "IndexOutOfBoundsException"},
        // both faults: the one that the document lists first
        {"b", "b", "$1$", "IllegalArgumentException"}, {"b", "b", "$9\\", "IllegalArgumentException"},
    };

    public static void main(String[] args) {
        for (String[] row : REPLACED) {
            PatternMatcher x = Check.with(row[0], row[1]);
            Check.fill(x, 2, row[2]);
            Check.due("replace() of " + row[0] + " in " + row[1] + " by " + row[2], made(x), row[3]);
        }
        noMatchThen();
        latestStays();
        exceptionsLeaveAll();
        replaced();
        Check.done();
    }

    private static String made(PatternMatcher x) {
        Object size = Check.answer(x::replace);
        return size instanceof Integer ? latest(x, (Integer) size) : (String) size;
    }

    private static String latest(PatternMatcher x, int size) {
        StringBuilder s = new StringBuilder();
        for (int i = 0; i < size; i++) {
            int k = i;
            s.append(Check.answer(() -> x.replaced(k)));
        }
        Check.due("replaced(" + size + "), which is behind the end", () -> x.replaced(size), "IndexOutOfBoundsException");
        return s.toString();
    }

    private static void noMatchThen() {
        for (String text : new String[] {"aba", "aaa", ""}) {
            PatternMatcher x = Check.with("b|^", text);
            x.find(0);
            x.replace();
            Check.due("start(0) after replace() in " + text, () -> x.start(0), "IllegalStateException");
            Check.due("length(1) after replace()", x.length(1), text.length());
            Check.due("length(2) after replace()", x.length(2), 0);
        }
    }

    private static void latestStays() {
        PatternMatcher x = Check.with("b", "abc");
        Check.fill(x, 2, "xyz");
        Check.due("replace()", made(x), "axyzc");
        Check.fill(x, 0, "a");
        Check.fill(x, 1, "q");
        Check.fill(x, 2, "");
        x.compile();
        x.find(0);
        x.split();
        Check.due("replaced after other calls", latest(x, 5), "axyzc");
        Check.due("replace() again", made(x), "q");
        Check.due("replaced(1) of a shorter one", () -> x.replaced(1), "IndexOutOfBoundsException");
        x.clear(1);
        Check.due("replace() in nothing", made(x), "");
        Check.due("replaced(0) of nothing", () -> x.replaced(0), "IndexOutOfBoundsException");
    }

    private static void exceptionsLeaveAll() {
        PatternMatcher x = Check.with("(b)", "abc");
        Check.fill(x, 2, "<$1>");
        Check.due("replace()", made(x), "a<b>c");
        x.find(0);
        for (String template : new String[] {"$", "x\\", "$2", "$x"}) {
            Check.fill(x, 2, template);
            Object answer = Check.answer(x::replace);
            Check.due("replace() by " + template, answer, template.equals("$2") ? "IndexOutOfBoundsException" : "IllegalArgumentException");
            Check.due("spans after that", Check.spans(x), "1-2 1-2");
            Check.due("replaced after that", latest(x, 5), "a<b>c");
        }
        PatternMatcher y = new PatternMatcher();
        Check.fill(y, 2, "$");
        Check.due("replace() without a pattern and by $", y::replace, "IllegalStateException");
        Check.fill(y, 2, "$9");
        Check.due("replace() without a pattern and by $9", y::replace, "IllegalStateException");
    }

    private static void replaced() {
        PatternMatcher x = Check.with("b", "abc");
        x.replace();
        for (int i : new int[] {-1, 2, 3, 296, 1000, Integer.MIN_VALUE, Integer.MAX_VALUE}) {
            Check.due("replaced(" + i + ")", () -> x.replaced(i), "IndexOutOfBoundsException");
        }
        Check.due("replaced(0)", () -> x.replaced(0), 'a');
        Check.due("replaced(1)", () -> x.replaced(1), 'c');
    }
}
