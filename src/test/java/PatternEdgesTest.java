/** The edges of what is a pattern, and of promise 4; above each test the words it is for. */
public final class PatternEdgesTest {
    private static final String SPECIAL = "|()[]{}*+?.^$\\";
    private static final String SPECIAL_ITEM = "[]^-\\";
    private static final String NO_PATTERN = "IllegalArgumentException";

    public static void main(String[] args) {
        choices();
        sequences();
        pieces();
        charactersForThemselves();
        escapedCharacters();
        anyDigitsAndWords();
        atLeastOneItem();
        itemCharacters();
        spansOfItems();
        items();
        loopDigits();
        leastNotAboveMost();
        noMostBehindAComma();
        signsBehindALoop();
        backReferences();
        groups();
        bracketsInOneAnother();
        bracketsAreClosed();
        behindLoops();
        behindBackReferences();
        fullRow();
        inThePlaceOfThePattern();
        noMatchThen();
        noPatternBefore();
        Check.done();
    }

    /** These are patterns with so many groups. */
    private static void are(int groups, String... rows) {
        for (String row : rows) {
            Check.due("compile() of " + row, State.rich(row)::compile, groups);
        }
    }

    /** These are no patterns: compile() throws, and the pattern, the match and all else stay. */
    private static void areNot(String... rows) {
        for (String row : rows) {
            State.kept("compile() of " + row, () -> State.rich(row), x -> x.compile(), NO_PATTERN);
        }
    }

    private static void matches(String pattern, String... texts) {
        for (String text : texts) {
            Check.due("matches() of " + pattern + " with " + text, Check.with(pattern, text).matches(), true);
        }
    }

    private static void matchesNot(String pattern, String... texts) {
        for (String text : texts) {
            Check.due("matches() of " + pattern + " with " + text, Check.with(pattern, text).matches(), false);
        }
    }

    /** The pattern stands for one character, which is one of these. */
    private static void standsFor(String pattern, String characters) {
        PatternMatcher x = Check.with(pattern, "");
        Check.due("matches() of " + pattern + " with nothing", x.matches(), false);
        for (char c = 32; c < 127; c++) {
            x.clear(1);
            x.type(1, c);
            Check.due("matches() of " + pattern + " with " + c, x.matches(), characters.indexOf(c) >= 0);
        }
    }

    private static String from(char first, char last) {
        StringBuilder s = new StringBuilder();
        for (char c = first; c <= last; c++) {
            s.append(c);
        }
        return s.toString();
    }

    private static String without(String characters) {
        StringBuilder s = new StringBuilder();
        for (char c = 32; c < 127; c++) {
            s.append(characters.indexOf(c) < 0 ? "" + c : "");
        }
        return s.toString();
    }

    // "one or more SEQUENCES with | between"
    private static void choices() {
        for (int bars = 0; bars <= 14; bars++) {
            are(0, "|".repeat(bars));
        }
        are(0, "a|", "|a", "a||b", "(?:|)", "a|b|c|d|e|f|g");
        are(1, "(|)", "(a|)", "(|a)");
        matches("a|b|c|d|e|f|g", "a", "b", "f", "g");
        matchesNot("a|b|c|d|e|f|g", "", "h", "|", "ab");
        matches("|||||||||||||a", "", "a");
        matches("a|||||||||||||", "", "a");
    }

    // "a sequence is any number of PIECES"
    private static void sequences() {
        for (int pieces = 0; pieces <= 14; pieces++) {
            are(0, "a".repeat(pieces));
        }
        matches("", "");
        matchesNot("", "a");
        matches("abcdefgh", "abcdefgh");
        matchesNot("abcdefg", "abcdefgh");
        matchesNot("abcdefghi", "abcdefgh");
        matches("^^^^^^^^^^^^^^", "");
        matches("$$$$$$$$$$$$$$", "");
        are(0, "a*b*c*d*e*f*g*");
        matches("a*b*c*d*e*f*g*", "", "abcdefg", "g");
    }

    // "a piece is an ATOM, or an atom and a LOOP"
    private static void pieces() {
        for (String loop : new String[] {"?", "*", "+", "{2}", "{2,}", "{2,3}"}) {
            are(0, "a" + loop, "." + loop, "\\d" + loop, "[a]" + loop, "^" + loop, "$" + loop, "\\b" + loop,
                "\\B" + loop);
            are(0, "(?:a)" + loop, "(?=a)" + loop, "(?!a)" + loop, "(?<=a)" + loop, "(?<!a)" + loop, "(?>a)" + loop);
            are(1, "(a)" + loop, "()\\1" + loop);
            areNot(loop, "|" + loop, "(" + loop + ")", "a|" + loop, "a" + loop + "*", "a" + loop + "{1}",
                "(?:" + loop + ")");
            are(0, "a" + loop + "a" + loop);
        }
    }

    // "any character but one of | ( ) [ ] { } * + ? . ^ $ \ stands for itself"
    private static void charactersForThemselves() {
        for (char c = 32; c < 127; c++) {
            if (SPECIAL.indexOf(c) < 0) {
                standsFor("" + c, "" + c);
            }
        }
        areNot("(", ")", "[", "]", "{", "}", "*", "+", "?", "\\");
        areNot("a(", "a)", "a[", "a]", "a{", "a}", "a\\");
        are(0, "|", ".", "^", "$");
        matchesNot("|", "|");
        matchesNot("^", "^");
        matchesNot("$", "$");
    }

    // "\ and one of those fourteen or - for that"
    private static void escapedCharacters() {
        for (char c = 32; c < 127; c++) {
            String row = "\\" + c;
            if (c == '-' || SPECIAL.indexOf(c) >= 0) {
                standsFor(row, "" + c);
            } else if ("dwbB".indexOf(c) < 0) {
                areNot(row, "a" + row, row + "a");
            }
        }
        areNot("\\", "a\\", "\\\\\\", "(\\)", "[\\]", "aaaaaaaaaaaaa\\");
        are(0, "\\\\", "\\\\\\\\", "aaaaaaaaaaaa\\\\");
    }

    // ". for any; \d for 0 .. 9, \w for letters, digits and _"
    private static void anyDigitsAndWords() {
        String digits = from('0', '9');
        String words = digits + from('A', 'Z') + from('a', 'z') + "_";
        standsFor(".", from(' ', '~'));
        standsFor("\\d", digits);
        standsFor("\\w", words);
        standsFor("[\\d]", digits);
        standsFor("[\\w]", words);
        standsFor("[^\\d]", without(digits));
        standsFor("[^\\w]", without(words));
        standsFor("[^\\d\\w]", without(words));
    }

    // "[ ITEMS ] or [^ ITEMS ], at least one item"
    private static void atLeastOneItem() {
        areNot("[]", "[^]", "[]a]", "[^]a]", "a[]", "[]*", "[", "[^", "[a", "[^a", "[ab", "[a-b", "[a\\]");
        are(0, "[a]", "[^a]", "[ab]", "[^ab]", "[abcdefghijkl]", "[^abcdefghijk]");
        standsFor("[a]", "a");
        standsFor("[^a]", without("a"));
        standsFor("[ab]", "ab");
        standsFor("[^ab]", without("ab"));
        standsFor("[abcdefghijkl]", "abcdefghijkl");
        standsFor("[^abcdefghijk]", without("abcdefghijk"));
        standsFor("[^ -~]", "");
    }

    // "an item is a character but one of [ ] ^ - \, .. or \ and one of [ ] ^ - \ or d or w"
    private static void itemCharacters() {
        for (char c = 32; c < 127; c++) {
            if (SPECIAL_ITEM.indexOf(c) < 0) {
                standsFor("[" + c + "]", "" + c);
                standsFor("[^" + c + "]", without("" + c));
            } else {
                standsFor("[\\" + c + "]", "" + c);
                standsFor("[^\\" + c + "]", without("" + c));
            }
            if (SPECIAL_ITEM.indexOf(c) < 0 && c != 'd' && c != 'w') {
                areNot("[\\" + c + "]", "[a\\" + c + "]");
            }
        }
        areNot("[[]", "[a[]", "[^^]", "[a^]", "[^a^]", "[-]", "[^-]", "[a-]", "[-a]", "[\\]", "[a\\]", "[\\", "[a\\");
    }

    // "or such a one, -, and another one that is not less"
    private static void spansOfItems() {
        are(0, "[a-b]", "[a-a]", "[ - ]", "[~-~]", "[ -~]", "[}-~]", "[ -!]", "[0-9]", "[Z-a]", "[+-.]", "[^a-a]");
        areNot("[b-a]", "[!- ]", "[~-}]", "[~- ]", "[9-0]", "[a-Z]", "[^b-a]", "[c-a]", "[xb-a]");
        standsFor("[a-a]", "a");
        standsFor("[a-b]", "ab");
        standsFor("[b-d]", "bcd");
        standsFor("[^b-d]", without("bcd"));
        standsFor("[ - ]", " ");
        standsFor("[~-~]", "~");
        standsFor("[ -~]", from(' ', '~'));
        standsFor("[ -}]", from(' ', '}'));
        standsFor("[!-~]", from('!', '~'));
        standsFor("[Z-a]", "Z[\\]^_`a");
        standsFor("[,-.]", ",-.");
        standsFor("[?-@]", "?@");
        standsFor("[>-A]", ">?@A");
        standsFor("[a-cx-z]", "abcxyz");
        areNot("[a-]", "[a-[]", "[a-]]", "[a-^]", "[a--]", "[!--]", "[a-\\]", "[a-\\d]", "[a-\\]]", "[Z-\\]]", "[[-a]",
            "[]-a]", "[^-a]", "[--a]", "[\\--a]", "[\\[-a]", "[\\d-z]", "[a-c-e]", "[a-b-]");
        are(0, "[\\-a]", "[a\\-c]", "[a-b\\-]");
        standsFor("[a\\-c]", "a-c");
        standsFor("[a-b\\-]", "ab-");
    }

    // "for one that is in the items, or in none of them"
    private static void items() {
        standsFor("[a-cb-d]", "abcd");
        standsFor("[^a-cb-d]", without("abcd"));
        standsFor("[aa]", "a");
        standsFor("[\\da]", from('0', '9') + "a");
        standsFor("[^\\da]", without(from('0', '9') + "a"));
        standsFor("[|(){}*+?.$]", "|(){}*+?.$");
        standsFor("[\\[\\]\\^\\-\\\\]", SPECIAL_ITEM);
        matches("[a][b]", "ab");
        matchesNot("[a][b]", "aa", "bb");
        matchesNot("[1][2]", "11", "22");
        matchesNot("a[b]", "aa");
        matchesNot("1[2]", "11");
    }

    // "{m}, {m,} and {m,n} with digits 0 .. 4"
    private static void loopDigits() {
        for (char m = '/'; m <= ':'; m++) {
            String[] rows = {"a{" + m + "}", "a{" + m + ",}", "a{0," + m + "}", "a{" + m + ",4}"};
            if (m >= '0' && m <= '4') {
                are(0, rows);
            } else {
                areNot(rows);
            }
        }
        areNot("a{}", "a{,}", "a{,4}", "a{", "a{1", "a{1,", "a{1,2", "a{1,2,}", "a{1,2,3}", "a{01}", "a{1,02}", "a{10}",
            "a{ 1}", "a{1 }", "a{1, 2}", "a{-1}", "a{0,-1}", "a{+1}", "a{1.2}", "a{a}", "a{1,a}", "a{\\d}", "a{1}}",
            "a{{1}", "{1}a");
        for (int least = 0; least <= 4; least++) {
            for (int size = 0; size <= 8; size++) {
                loop("a{" + least + "}", least, least, size);
            }
        }
    }

    // "m not above n: least and most"
    private static void leastNotAboveMost() {
        for (int m = 0; m <= 4; m++) {
            for (int n = 0; n <= 4; n++) {
                String row = "a{" + m + "," + n + "}";
                if (m > n) {
                    areNot(row, row + "?", row + "+", "b" + row, "(?:" + row + ")");
                    continue;
                }
                are(0, row, row + "?", row + "+");
                for (int size = 0; size <= 8; size++) {
                    loop(row, m, n, size);
                }
            }
        }
    }

    // "? is {0,1}, * is {0,} and + is {1,}"; "no most behind a comma alone"
    private static void noMostBehindAComma() {
        for (int size = 0; size <= 8; size++) {
            loop("a?", 0, 1, size);
            loop("a*", 0, 8, size);
            loop("a+", 1, 8, size);
            for (int m = 0; m <= 4; m++) {
                loop("a{" + m + ",}", m, 8, size);
            }
        }
    }

    /** So many a: the loop has them whole if they are neither too few nor too many, else takes what it may. */
    private static void loop(String loop, int least, int most, int size) {
        String text = "a".repeat(size);
        int taken = Math.min(size, most);
        String greedy = size < least ? "-" : "0-" + taken;
        String lazy = size < least ? "-" : "0-" + least;
        boolean whole = size >= least && size <= most;
        taken(loop, text, greedy, whole);
        taken(loop + "?", text, lazy, whole);
        taken(loop + "+", text, greedy, whole);
    }

    private static void taken(String pattern, String text, String want, boolean whole) {
        PatternMatcher x = Check.with(pattern, text);
        Check.due("looking() of " + pattern + " with " + text, x.looking(), !want.equals("-"));
        Check.due("looking() of " + pattern + " with " + text + ", match", Check.match(x), want);
        Check.due("matches() of " + pattern + " with " + text, x.matches(), whole);
        Check.due("matches() of " + pattern + " with " + text + ", match", Check.match(x),
            whole ? "0-" + text.length() : "-");
    }

    // "Behind it ? makes it LAZY, + POSSESSIVE, else it is GREEDY": one sign alone.
    private static void signsBehindALoop() {
        for (String loop : new String[] {"?", "*", "+", "{2}", "{2,}", "{2,3}"}) {
            are(0, "a" + loop, "a" + loop + "?", "a" + loop + "+");
            for (String signs : new String[] {"??", "?+", "+?", "++", "?*", "+*", "*", "?{1}", "+{1}", "{1}"}) {
                areNot("a" + loop + signs);
            }
        }
    }

    // "\1 to \4: what group 1 .. 4 has, which must begin before it in the pattern"
    private static void backReferences() {
        String[] groups = {"", "()", "()()", "()()()", "()()()()"};
        for (int count = 0; count <= 4; count++) {
            for (int group = 0; group <= 9; group++) {
                String row = groups[count] + "\\" + group;
                if (group >= 1 && group <= count) {
                    are(count, row, row + "*");
                } else {
                    areNot(row, row + "*");
                }
            }
        }
        areNot("\\1()", "\\1", "\\2()()", "()\\2()", "(\\2)", "(\\2())", "(\\2)()", "(?:\\1)()", "\\1|()", "(?=\\1)()");
        are(1, "()\\1", "(\\1)", "(a|\\1)", "()|\\1", "(?:())\\1", "(?!())\\1", "(?<=())\\1", "(){0}\\1");
        are(2, "()()\\2", "(()\\2)", "((\\2))", "((\\1))", "(()\\1)");
        are(4, "((((\\4))))", "((((\\1))))", "()()()(\\4)");
        areNot("()()()\\4()", "(((\\4())))", "[(]\\1", "\\(\\1", "(?:)\\1", "(?=)\\1", "(?>)\\1");
    }

    // "a GROUP, numbered 1, 2, .. by their ( from the left, at most four"
    private static void groups() {
        are(0, "", "(?:)", "(?=)", "(?!)", "(?<=)", "(?<!)", "(?>)", "\\(\\)", "[()]");
        are(1, "()", "(a)", "(?:())", "[(]()");
        are(2, "()()", "(())", "(|())");
        are(3, "()()()", "((()))", "(()())", "()(())", "()|()|()");
        are(4, "()()()()", "(((())))", "(()()())", "()()()()(?:)", "()()()()(?=)", "()()()()[(]", "()()()()\\(",
            "()|()|()|()");
        areNot("()()()()()", "(()()()())", "((()))()()", "()()()()|()", "()()()()(", "()()()()(a)", "()(()())()",
            "(?=()()()()())");
        PatternMatcher x = Check.with("(a(b)(c))(d)", "abcd");
        x.matches();
        Check.due("spans by the ( from the left", Check.match(x), "0-4 0-3 1-2 2-3 3-4");
    }

    // "At most four brackets ( are in one another."
    private static void bracketsInOneAnother() {
        are(3, "((()))", "(?:((())))", "(?=((())))", "(?!((())))", "(?<=((())))", "(?<!((())))", "(?>((())))");
        are(4, "(((())))", "((((a))))*", "((((a)*)*)*)*");
        are(3, "((((?:))))", "((((?=))))", "((((?!))))", "((((?<=))))", "((((?<!))))", "((((?>))))");
        are(2, "(?:(?:(())))", "((?:((?:))))");
        areNot("((((()))))", "((((?:()))))", "(((((a)))))");
        areNot("(?:(((()))))", "(?=(((()))))", "(?!(((()))))", "(?<=(((()))))", "(?<!(((()))))", "(?>(((()))))");
        areNot("((((?:(?:))))", "((((?:()))))", "(((((?:)))))", "(((((?=)))))", "(((((?>)))))");
        are(4, "(())(())", "((()))()", "()((()))", "((())())", "((((\\())))", "((((\\)))))", "(((([(]))))");
        areNot("((((\\()))))", "(((([(])))))");
    }

    // "( CHOICE )": each ( has its )
    private static void bracketsAreClosed() {
        areNot("(", ")", "(()", "())", "(((()))", "(((()))))", "(a", "a)", ")(", "(|", "|)", "(?:", "(?:a", "(?=",
            "(?=a", "(?!a", "(?<=a", "(?<!a", "(?>a", "(?", "(?)", "(?<", "(?<)", "(?a)", "(?<a)", "(?*)", "(?+)",
            "(??)", "(?:a))", "( ?:a)*)", "(?<>a)", "(?<:a)", "(?:");
        are(1, "( ?:a)", "(:)", "(=)", "(!)", "(<=)", "(>)");
        are(0, "(?::)", "(?==)", "(?!!)", "(?<==)", "(?<!!)", "(?>>)", "(?>=a)");
    }

    // "What stands within a look behind has no loop without most"
    private static void behindLoops() {
        for (String behind : new String[] {"(?<=", "(?<!"}) {
            are(0, behind + "a?)", behind + "a{0})", behind + "a{4})", behind + "a{0,4})", behind + "a{4,4})",
                behind + "a??)", behind + "a?+)", behind + "a{1,2}?)", behind + "a{1,2}+)", behind + "[*+])",
                behind + "\\*\\+)");
            areNot(behind + "a*)", behind + "a+)", behind + "a{0,})", behind + "a{4,})", behind + "a*?)",
                behind + "a*+)", behind + "a+?)", behind + "a++)", behind + "a{1,}?)", behind + "a{1,}+)",
                behind + "b|a*)", behind + "ba*)");
            areNot(behind + "(a*))", behind + "(?:a+))", behind + "(?=a*))", behind + "(?!a*))", behind + "(?>a+))",
                behind + "(?<=a*))", behind + "(a)*)", behind + "()+)", behind + "(?=)b*)", behind + "(?<=)b*)");
            are(0, behind + "a)*", behind + "a)+", behind + "a){2,}", behind + "a)b*", "b*" + behind + "a)",
                "(?:" + behind + "a)b*)");
        }
        areNot("(?=(?<=a*))", "(?<=a*)b", "b(?<=a*)", "(?<=a)(?<=b*)");
        are(0, "(?=a*)", "(?!a*)", "(?>a*)", "(?=(?<=a)b*)");
    }

    // "and no back reference"
    private static void behindBackReferences() {
        for (String behind : new String[] {"(?<=", "(?<!"}) {
            areNot("()" + behind + "\\1)", "()" + behind + "a\\1)", "()" + behind + "a|\\1)",
                "()" + behind + "(?:\\1))", "()" + behind + "(?=\\1))", "()" + behind + "\\1?)", behind + "()\\1)",
                behind + "(\\1))", "(" + behind + "\\1))");
            are(1, "()" + behind + "a)\\1", behind + "())\\1", "()\\1" + behind + "a)", "()" + behind + "1)",
                "()" + behind + "\\\\1)");
        }
        are(1, "()(?=\\1)", "()(?!\\1)", "()(?>\\1)", "()(?:\\1)");
    }

    // row 0 "at most 14": all of them are the pattern.
    private static void fullRow() {
        are(4, "((((a*)*)*)*)*");
        are(2, "((a{4,}){4,})*", "((a{4}){4}){4}");
        are(0, "aaaaaaaaaaaaa*", "[abcdefghijkl]", "(?:aaaaaaaaaa)", "aaaaaaaaaa{4,}", "aaaaaaaaa{3,4}",
            "(?<=aaaaaaaaa)");
        areNot("aaaaaaaaaaaaa(", "aaaaaaaaaaaaa)", "aaaaaaaaaaaaa\\", "(aaaaaaaaaaaaa", "[aaaaaaaaaaaaa",
            "aaaaaaaaaa{3,4", "aaaaaaaaaaaaa[", "aaaaaaaaaaaaa{", "aaaaaaaaaaaa**");
        matches("aaaaaaaa|bbbbb", "aaaaaaaa", "bbbbb");
        matchesNot("aaaaaaaa|bbbbb", "aaaaaaa", "bbbb", "bbbbbb");
        PatternMatcher x = Check.with("aaaaaaaaaaaaa*", "");
        Check.due("type(0, 'b') behind 14", x.type(0, 'b'), false);
        Check.due("compile() then", x::compile, 0);
    }

    // "Row 0 is compiled, in the place of the pattern that was: how many groups it has."
    private static void inThePlaceOfThePattern() {
        String[] rows = {"(a)", "()()()()", "", "b", "(a)(b)", "((((a*)*)*)*)*", "[^a]", "c|b", "cb", "^b|$"};
        int[] groups = {1, 4, 0, 0, 2, 4, 0, 0, 0, 0};
        String[] spans = {"0-1 0-1", "0-0 0-0 0-0 0-0 0-0", "0-0", "1-2", "0-2 0-1 1-2", "0-1 1-1 1-1 1-1 1-1", "1-2",
            "1-2", "-", "2-2"};
        for (int first = 0; first < rows.length; first++) {
            for (int then = 0; then < rows.length; then++) {
                for (int last = 0; last < rows.length; last++) {
                    PatternMatcher x = Check.with(rows[first], "ab");
                    String name = " of " + rows[last] + " after " + rows[first] + " and " + rows[then];
                    Check.fill(x, 0, rows[then]);
                    Check.due("compile() of " + rows[then] + " after " + rows[first], x::compile, groups[then]);
                    Check.fill(x, 0, rows[last]);
                    Check.due("compile()" + name, x::compile, groups[last]);
                    x.find(0);
                    Check.due("match" + name, Check.match(x), spans[last]);
                }
            }
        }
        PatternMatcher y = Check.with("a", "b");
        Check.fill(y, 0, "b");
        Check.due("matches() of a, with b in row 0 and not compiled", y.matches(), false);
        y.compile();
        Check.due("matches() of b, compiled", y.matches(), true);
        y.type(0, 'b');
        Check.due("matches() of b, with bb in row 0 and not compiled", y.matches(), true);
        y.clear(0);
        Check.due("matches() of b, with row 0 empty", y.matches(), true);
    }

    // "There is no match then."
    private static void noMatchThen() {
        for (String row : new String[] {"", "(b)|(c)", "a", "()()()()"}) {
            PatternMatcher x = State.rich(row);
            Check.due("match before compile()", Check.match(x), "2-3 . 2-3");
            x.compile();
            Check.due("match after compile() of " + row, Check.match(x), "-");
            Check.due("made after compile() of " + row, Check.made(x), "a<b><>a");
            Check.due("pieces after compile() of " + row, Check.pieces(x), "0-1 2-2 3-4");
        }
    }

    // "IllegalArgumentException if it is no pattern": then none is compiled, if none was.
    private static void noPatternBefore() {
        State.Start start = () -> {
            PatternMatcher x = new PatternMatcher();
            Check.fill(x, 0, "(");
            Check.fill(x, 1, "a");
            return x;
        };
        State.kept("compile() of ( as the first", start, x -> x.compile(), NO_PATTERN);
        PatternMatcher x = start.make();
        Check.due("compile() of (", x::compile, NO_PATTERN);
        Check.due("matches() then", x::matches, "IllegalStateException");
        x.type(0, ')');
        Check.due("compile() of ()", x::compile, 1);
        Check.due("looking() then", x.looking(), true);
        x.type(0, ')');
        Check.due("compile() of ())", x::compile, NO_PATTERN);
        Check.due("match after compile() of ())", Check.match(x), "0-0 0-0");
    }
}
