/** Promise 4: compile, and what is a pattern. */
public final class CompileTest {
    private static final String[][] PATTERNS = {
        // groups, patterns with so many
        {"0", "", "a", "abc", "|", "a|", "|a", "||", "a|b|c", "a b", "-", ",", "a,b", "<=!:>", "\"#%&'/;@_`~", "1", "dwbB"},
        {"0", ".", "\\d", "\\w", "\\|", "\\(", "\\)", "\\[", "\\]", "\\{", "\\}", "\\*", "\\+", "\\?", "\\.", "\\^",
            "\\$", "\\\\", "\\-", "^", "$", "\\b", "\\B", "$^", "a^b$c"},
        {"0", "[a]", "[ab]", "[^a]", "[a-c]", "[a-a]", "[a-cx-z]", "[ ]", "[|(){}*+?.$]", "[\\[\\]\\^\\-\\\\]",
            "[\\d]", "[\\w\\d]", "[a\\d]", "[^\\w]", "[ -~]", "[!-/]", "[a\\-z]", "[,]", "[\\da]", "[.-/]"},
        {"0", "a?", "a*", "a+", "a??", "a*?", "a+?", "a?+", "a*+", "a++", "a{0}", "a{4}", "a{0,}", "a{4,}", "a{0,0}",
            "a{0,4}", "a{4,4}", "a{2,3}?", "a{2,3}+", "a{2}?", "a{2}+", "a{2,}?", "a{2,}+", "a{1}b{2}c{3}"},
        {"0", ".*", "\\d+", "[ab]*", "^*", "$+", "\\b?", "\\B{2}", "(?:)*", "(?=a)*", "(?!a)+", "(?<=a)?", "(?<!a){2}",
            "(?>a)*+"},
        {"0", "(?:)", "(?:a|b)", "(?=a)", "(?!a)", "(?<=a)", "(?<!a)", "(?>a)", "(?=)", "(?!)", "(?<=)", "(?<!)",
            "(?>)", "(?:(?:(?:a)))"},
        {"1", "()", "(a)", "(|)", "(a|b)*", "(:a)", "(=a)", "(a\\1)", "(a)\\1", "(a)|\\1", "(?:(a))\\1", "(?=(a))\\1",
            "(?!(a))\\1", "(?<=(a))\\1", "\\((a)\\)", "[(](a)", "(a[)]b)"},
        {"2", "()()", "(())", "(a)(b)\\2\\1", "((a)\\2)\\1", "((a)\\1)", "(a)(?:b)(c)"},
        {"3", "()()()", "(((a)))\\3", "(a)(b)(c)\\3"},
        {"4", "((((a))))", "((((\\4))))", "()()()()", "()()()()\\4\\1", "()()()()\\3\\2", "(()(()))"},
        {"0", "(?<=a?)", "(?<=a{4})", "(?<=a{0,4})", "(?<!a??)", "(?<!a?+)", "(?<=a)b*", "(?<=a)b{2,}", "(?<=a|bc)"},
        {"1", "(?<=(a))", "(?<!(a){2})", "(b)(?<=a)\\1", "(?<=(?=(a)))", "(?<=a)(b+)"},
    };

    private static final String[] NO_PATTERNS = {
        ")", "a)", "(", "(a", "a(b", "(a))", "((a)", "(?:a", "(?=a", "(?<=a", "(?>a", "()(",
        "[", "]", "a]", "[]", "[^]", "[a", "[^a", "[a-", "[a-]", "[-a]", "[-]", "[a-z-]", "[a-b-c]", "[b-a]", "[^^]",
        "[^^a]", "[a^]", "[[]", "[[a]]", "[]a]", "[a]]", "[\\]", "[\\", "[\\a]", "[\\b]", "[\\B]", "[\\D]", "[\\1]",
        "[\\.]", "[\\|]", "[\\d-a]", "[a-\\d]", "[a-\\]]", "[\\--a]", "[a-^]", "[\\[-\\]]",
        "{", "}", "a{", "a}", "a{}", "a{1", "a{1,", "a{1,2", "a{,}", "a{,2}", "a{ 1}", "a{1 }", "a{5}", "a{5,}",
        "a{0,5}", "a{9}", "a{10}", "a{1,10}", "a{3,1}", "a{1,0}", "a{4,3}", "a{a}", "a{-1}", "a{1,2,3}", "a{1;2}", "{1}",
        "*", "+", "?", "|*", "(*)", "(+)", "(?)", "(|?)", "a**", "a*?*", "a*??", "a*?+", "a*+?", "a*++", "a+++", "a???",
        "a??+", "a?++", "a{1}{2}", "a{1}*", "a{1}??", "a{1}++", "a{1}+?", "(?:*)", "^**",
        "\\", "a\\", "\\a", "\\q", "\\D", "\\W", "\\s", "\\0", "\\5", "\\9", "\\ ", "\\,", "\\<", "\\_", "\\\\\\",
        "(?a)", "(?", "(?<", "(?<a)", "(?<>a)", "(?<:a)", "(?#a)", "(??a)", "(?P<a>a)", "(?i)", "(?1)", "( ?:a", "(?>",
        "\\1", "\\1(a)", "(a)\\2", "\\2(a)(b)", "(a)\\2(b)", "(a)\\4", "(?:a)\\1", "(?=a)\\1", "()()()\\4", "[(]\\1",
        "()()()()()", "(((((a)))))", "((((()))))", "(?:((((a)))))", "((((?:a))))(", "(((((?:a", "()()()()(?:",
        "()()()()(a)", "((()))()()", "(()(()))()",
        "(?<=a*)", "(?<=a+)", "(?<=a{2,})", "(?<=a*?)", "(?<=a*+)", "(?<!a*)", "(?<!a+)", "(?<!a{0,})", "(?<=(a*))",
        "(?<=(?=a*))", "(?<=(?:b+))", "(?<=(?>a*))", "(?=(?<=a*))", "(?<=b|a*)", "(a)(?<=\\1)", "(a)(?<!\\1)",
        "(?<=(a)\\1)", "(?<!(a)\\1)", "(?<=(?=a)b*)", "(?<=(?<=a)b+)",
    };

    public static void main(String[] args) {
        for (String[] same : PATTERNS) {
            for (int i = 1; i < same.length; i++) {
                compiles(same[i], Integer.parseInt(same[0]));
            }
        }
        for (String row : NO_PATTERNS) {
            compiles(row, "IllegalArgumentException");
        }
        everyCharacter();
        takesThePlace();
        noPatternLeavesAll();
        rowIsNotYetThePattern();
        Check.done();
    }

    private static void compiles(String row, Object want) {
        PatternMatcher x = new PatternMatcher();
        Check.fill(x, 0, row);
        Check.due("compile() of " + row, x::compile, want);
        Check.due("compile() of " + row + " once more", x::compile, want);
    }

    private static void everyCharacter() {
        for (char c = 32; c < 127; c++) {
            boolean special = "|()[]{}*+?.^$\\".indexOf(c) >= 0;
            if (!special) {
                compiles("" + c, 0);
                standsFor("" + c, c);
            } else if (".^$|".indexOf(c) < 0) {
                compiles("" + c, "IllegalArgumentException");
            }
            if (special || c == '-') {
                standsFor("\\" + c, c);
            } else if ("dwbB".indexOf(c) < 0) {
                compiles("\\" + c, "IllegalArgumentException");
            }
            boolean specialItem = "[]^-\\".indexOf(c) >= 0;
            standsFor(specialItem ? "[\\" + c + "]" : "[" + c + "]", c);
            if (!specialItem && c != 'd' && c != 'w') {
                compiles("[\\" + c + "]", "IllegalArgumentException");
            }
        }
    }

    /** A pattern that stands for one character alone. */
    private static void standsFor(String pattern, char only) {
        PatternMatcher x = Check.with(pattern, "");
        for (char c = 32; c < 127; c++) {
            x.clear(1);
            x.type(1, c);
            if (x.matches() != (c == only)) {
                Check.due("matches() of " + pattern + " with " + c, c != only, c == only);
            }
        }
    }

    private static void takesThePlace() {
        PatternMatcher x = Check.with("(a)", "b");
        Check.due("find(0) of (a) in b", x.find(0), -1);
        Check.fill(x, 0, "b");
        Check.due("compile() of b", x::compile, 0);
        Check.due("find(0) of b in b", x.find(0), 0);
        Check.due("start(1) of b", () -> x.start(1), "IndexOutOfBoundsException");
        Check.due("compile() with a match", x::compile, 0);
        Check.due("start(0) after compile()", () -> x.start(0), "IllegalStateException");
        Check.due("end(0) after compile()", () -> x.end(0), "IllegalStateException");
    }

    private static void noPatternLeavesAll() {
        PatternMatcher x = Check.with("(a)(b)", "ab");
        Check.due("matches()", x.matches(), true);
        x.replace();
        x.split();
        x.matches();
        for (String row : new String[] {"(", "(((", "x)", "()()()()(", "[", "a**"}) {
            Check.fill(x, 0, row);
            Check.due("compile() of " + row, x::compile, "IllegalArgumentException");
            Check.due("spans after compile() of " + row, Check.spans(x), "0-2 0-1 1-2");
            Check.due("length(0)", x.length(0), row.length());
            Check.due("matches() with the pattern before", x.matches(), true);
        }
        PatternMatcher y = new PatternMatcher();
        Check.fill(y, 0, "(");
        Check.due("compile()", y::compile, "IllegalArgumentException");
        Check.due("matches() after a first compile() that throws", y::matches, "IllegalStateException");
    }

    private static void rowIsNotYetThePattern() {
        PatternMatcher x = Check.with("a", "a");
        Check.due("matches()", x.matches(), true);
        Check.fill(x, 0, "b");
        Check.due("start(0) after row 0 was typed", () -> x.start(0), 0);
        Check.due("matches() before compile()", x.matches(), true);
        x.clear(0);
        Check.due("matches() with row 0 empty", x.matches(), true);
        Check.due("compile() of nothing", x::compile, 0);
        Check.due("matches() of nothing with a", x.matches(), false);
    }
}
