/** The edges of successive matches and of promises 10 to 13; above each test the words it is for. */
public final class SuccessiveEdgesTest {
    private static final String NO_STATE = "IllegalStateException";
    private static final String NO_FIT = "IllegalArgumentException";
    private static final String NO_INDEX = "IndexOutOfBoundsException";

    public static void main(String[] args) {
        successiveMatches();
        templateCharacters();
        escapedInTemplate();
        groupsInTemplate();
        groupWithoutSpan();
        nothingFitBehind();
        noSuchGroup();
        bothFaults();
        noPatternCompiled();
        noMatchThen();
        longestMade();
        latestReplace();
        noSuchCharacter();
        splitBetweenMatches();
        emptyMatchAtFirstPlace();
        emptyPiecesAtEnd();
        wholeText();
        mostPieces();
        latestSplit();
        noSuchPiece();
        noSuchWhat();
        Check.done();
    }

    private static void replaced(String pattern, String text, String template, String want) {
        PatternMatcher x = Check.with(pattern, text);
        Check.fill(x, 2, template);
        String name = "replace() of " + pattern + " in " + text + " by " + template;
        Check.due(name, x::replace, want.length());
        Check.due(name + ", what it made", Check.made(x), want);
    }

    private static void split(String pattern, String text, String want) {
        PatternMatcher x = Check.with(pattern, text);
        Check.due("split() of " + text + " by " + pattern, x::split, want.isEmpty() ? 0 : want.split(" ").length);
        Check.due("pieces of " + text + " by " + pattern, Check.pieces(x), want);
    }

    /** An object with a match, a replaced text and pieces, and this template. */
    private static PatternMatcher withTemplate(String pattern, String text, String template) {
        PatternMatcher x = Check.with(pattern, text);
        Check.fill(x, 2, "-");
        x.replace();
        x.split();
        x.find(0);
        Check.fill(x, 2, template);
        return x;
    }

    /** replace() throws, whether or not anything matches, and leaves all. */
    private static void refused(String pattern, String template, String want) {
        for (String text : new String[] {"", "b", "abab", "aaaaaaaa"}) {
            State.kept("replace() of " + pattern + " in " + text + " by " + template,
                () -> withTemplate(pattern, text, template), x -> x.replace(), want);
        }
    }

    // "that found from 0 on, then that found from the end of the one before, or, if that was empty, from one place
    // farther (if there is one)"
    private static void successiveMatches() {
        replaced("", "", "-", "-");
        replaced("", "a", "-", "-a-");
        replaced("", "abcdefgh", "-", "-a-b-c-d-e-f-g-h-");
        replaced("a", "", "-", "");
        replaced("a", "a", "-", "-");
        replaced("a", "aaaaaaaa", "-", "--------");
        replaced("aa", "aaa", "-", "-a");
        replaced("aa", "aaaa", "-", "--");
        replaced("aa", "aaaaaaaa", "-", "----");
        replaced("a*", "", "-", "-");
        replaced("a*", "a", "-", "--");
        replaced("a*", "aaaaaaaa", "-", "--");
        replaced("a*", "ba", "-", "-b--");
        replaced("a*", "ab", "-", "--b-");
        replaced("a*?", "aa", "-", "-a-a-");
        replaced("a|$", "a", "-", "--");
        replaced("a|$", "b", "-", "b-");
        replaced("^", "aa", "-", "-aa");
        replaced("^|a", "aa", "-", "-a-");
        replaced("a|^", "aa", "-", "--");
        replaced("$", "aa", "-", "aa-");
        replaced("^a", "aa", "-", "-a");
        replaced("(?<=a)", "aa", "-", "a-a-");
        replaced("(?=a)", "aa", "-", "-a-a");
        replaced("\\b", "ab", "-", "-ab-");
        replaced("\\B", "ab", "-", "a-b");
        replaced("aba", "ababa", "-", "-ba");
        replaced("x", "abcdefgh", "-", "abcdefgh");
        replaced("........", "abcdefgh", "-", "-");
        replaced("(a)|b", "aba", "<$1>", "<a><><a>");
    }

    // "others for themselves"
    private static void templateCharacters() {
        for (char c = 32; c < 127; c++) {
            if (c != '$' && c != '\\') {
                replaced("b", "abc", "" + c, "a" + c + "c");
            }
        }
        replaced("b", "abc", "", "ac");
        replaced("b", "b", "1234567", "1234567");
        replaced("b", "b", "12345678", "12345678");
    }

    // "\ and a character for that"
    private static void escapedInTemplate() {
        for (char c = 32; c < 127; c++) {
            replaced("(b)", "abc", "\\" + c, "a" + c + "c");
        }
        replaced("(b)", "b", "\\$1", "$1");
        replaced("(b)", "b", "\\\\$1", "\\b");
        replaced("(b)", "b", "\\\\\\$1", "\\$1");
        replaced("b", "b", "\\a\\b\\c\\d", "abcd");
        replaced("b", "b", "123456\\$", "123456$");
        replaced("b", "b", "\\\\\\\\\\\\\\\\", "\\\\\\\\");
    }

    // "$ and a digit 0 .. 9 stand for what that group has": one digit alone
    private static void groupsInTemplate() {
        String[] patterns = {"abcd", "(a)bcd", "(a)(b)cd", "(a)(b)(c)d", "(a)(b)(c)(d)"};
        String[] has = {"abcd", "a", "b", "c", "d"};
        for (int groups = 0; groups <= 4; groups++) {
            for (int group = 0; group <= 9; group++) {
                if (group <= groups) {
                    replaced(patterns[groups], "xabcdx", "$" + group, "x" + has[group] + "x");
                    replaced(patterns[groups], "xabcdx", "$" + group + "0", "x" + has[group] + "0x");
                    replaced(patterns[groups], "xabc", "$" + group, "xabc");
                } else {
                    refused(patterns[groups], "$" + group, NO_INDEX);
                }
            }
        }
        replaced("b", "abc", "$0$0$0$0", "abbbbc");
        replaced("........", "abcdefgh", "$0$0", "abcdefghabcdefgh");
        replaced("(b)", "b", "123456$1", "123456b");
    }

    // "(nothing, if it has no span)"
    private static void groupWithoutSpan() {
        replaced("(a)?b", "b", "<$1>", "<>");
        replaced("(a)?b", "ab", "<$1>", "<a>");
        replaced("(a)?b", "abb", "<$1>", "<a><>");
        replaced("(a?)b", "b", "<$1>", "<>");
        replaced("(a){0}b", "b", "<$1>", "<>");
        replaced("(a)|(b)", "ab", "$2$1;", "a;b;");
        replaced("()()()(a)?", "b", "<$4>", "<>b<>");
    }

    // "IllegalArgumentException if a $ or \ in the template has nothing fit behind it"
    private static void nothingFitBehind() {
        for (char c = 32; c < 127; c++) {
            if (c < '0' || c > '9') {
                refused("b", "$" + c, NO_FIT);
            }
        }
        for (String template : new String[] {"$", "\\", "1$", "1\\", "1234567$", "1234567\\", "$0$", "$0\\", "\\$$",
            "\\\\\\", "$$0", "$\\0", "$$", "$ 0", "12345$a", "\\\\\\\\\\\\\\"}) {
            refused("b", template, NO_FIT);
            refused("x", template, NO_FIT);
            refused("", template, NO_FIT);
        }
        replaced("b", "b", "1234567", "1234567");
        replaced("b", "b", "123456$0", "123456b");
        replaced("b", "b", "123456\\\\", "123456\\");
    }

    // "IndexOutOfBoundsException if it names a group that the pattern has not (asked for even if nothing matches)"
    private static void noSuchGroup() {
        refused("b", "$1", NO_INDEX);
        refused("x", "$1", NO_INDEX);
        refused("x", "$9", NO_INDEX);
        refused("(x)", "$2", NO_INDEX);
        refused("(x)", "$1$2", NO_INDEX);
        refused("(x)", "\\$$2", NO_INDEX);
        refused("()()()", "$4", NO_INDEX);
        refused("()()()()", "$5", NO_INDEX);
        refused("()()()()", "$4$9", NO_INDEX);
        refused("(?:x)", "$1", NO_INDEX);
        replaced("x", "ab", "$0", "ab");
        replaced("(x)", "ab", "$1", "ab");
        replaced("()()()()x", "ab", "$4", "ab");
        replaced("x", "ab", "\\$9", "ab");
        replaced("x", "", "$0", "");
    }

    // both: the fault that the document lists first
    private static void bothFaults() {
        refused("b", "$1$", NO_FIT);
        refused("b", "$$1", NO_FIT);
        refused("b", "$9\\", NO_FIT);
        refused("b", "$x$9", NO_FIT);
    }

    // replace, split: "IllegalStateException if no pattern is compiled", whatever the template
    private static void noPatternCompiled() {
        for (String template : new String[] {"", "-", "$0", "$", "\\", "$9"}) {
            State.Start start = () -> {
                PatternMatcher x = new PatternMatcher();
                Check.fill(x, 0, "a");
                Check.fill(x, 1, "aba");
                Check.fill(x, 2, template);
                return x;
            };
            State.kept("replace() without a pattern by " + template, start, x -> x.replace(), NO_STATE);
            State.kept("split() without a pattern", start, x -> x.split(), NO_STATE);
        }
        State.kept("new, replace()", PatternMatcher::new, x -> x.replace(), NO_STATE);
        State.kept("new, split()", PatternMatcher::new, x -> x.split(), NO_STATE);
    }

    // replace, split: "there is no match then"
    private static void noMatchThen() {
        for (String pattern : new String[] {"", "b", "a*", "$", "^"}) {
            for (String text : new String[] {"", "b", "aba", "aaaaaaa", "abcdefgh"}) {
                PatternMatcher x = withTemplate(pattern, text, "-");
                x.replace();
                Check.due("match after replace() of " + pattern + " in " + text, Check.match(x), "-");
                x.find(0);
                x.split();
                Check.due("match after split() of " + text + " by " + pattern, Check.match(x), "-");
            }
        }
        PatternMatcher x = withTemplate("(b)", "abc", "<$1>");
        Check.due("replace()", x::replace, 5);
        Check.due("split()", x::split, 2);
        Check.due("find(0) in the text as it was", x.find(0), 1);
        Check.due("length(1), the text as it was", x.length(1), 3);
        Check.due("length(2), the template as it was", x.length(2), 4);
        Check.due("made after split()", Check.made(x), "a<b>c");
        Check.due("replace() once more", x::replace, 5);
        Check.due("pieces after replace()", Check.pieces(x), "0-1 2-3");
    }

    private static void longestMade() {
        StringBuilder want = new StringBuilder();
        String text = "abcdefgh";
        for (int place = 0; place <= 8; place++) {
            want.append(text.substring(place).repeat(4)).append(place < 8 ? text.substring(place, place + 1) : "");
        }
        replaced("(?=(.*))", text, "$1$1$1$1", want.toString());
        replaced("", text, "12345678", "12345678" + text.replaceAll("(.)", "$112345678"));
    }

    // "Character i of what the latest replace() made."
    private static void latestReplace() {
        PatternMatcher x = Check.with("b", "abc");
        Check.fill(x, 2, "xyz");
        x.replace();
        Check.due("made", Check.made(x), "axyzc");
        Check.fill(x, 2, "");
        x.replace();
        Check.due("made, shorter", Check.made(x), "ac");
        x.clear(1);
        x.replace();
        Check.due("made of nothing", Check.made(x), "");
        Check.fill(x, 1, "b");
        Check.fill(x, 2, "12345678");
        Check.due("made of nothing, after the rows were typed", Check.made(x), "");
        x.replace();
        Check.due("made, longer", Check.made(x), "12345678");
        Check.fill(x, 2, "$");
        Check.due("replace() by $", x::replace, NO_FIT);
        Check.fill(x, 0, "(");
        Check.due("compile() of (", x::compile, NO_FIT);
        Check.due("made, after exceptions", Check.made(x), "12345678");
    }

    // replaced: "IndexOutOfBoundsException if there is none."
    private static void noSuchCharacter() {
        for (int size = 0; size <= 8; size++) {
            String text = "abcdefgh".substring(0, size);
            State.Start start = () -> withTemplate("x", text, "-");
            for (int i = 0; i < size; i++) {
                int k = i;
                State.kept("replaced(" + i + ") of " + text, start, x -> x.replaced(k), text.charAt(i));
            }
            for (int i : new int[] {Integer.MIN_VALUE, Integer.MIN_VALUE + 1, -2, -1, size, size + 1, 9, 256, 295, 296,
                297, 65536, Integer.MAX_VALUE - 1, Integer.MAX_VALUE}) {
                State.kept("replaced(" + i + ") of " + text, start, x -> x.replaced(i), NO_INDEX);
            }
        }
    }

    // "The pieces of the text between successive matches"
    private static void splitBetweenMatches() {
        split(",", "a,b", "0-1 2-3");
        split(",", "a,b,c,d,", "0-1 2-3 4-5 6-7");
        split(",", "a,,b", "0-1 2-2 3-4");
        split(",", ",a", "0-0 1-2");
        split(",", ",,a", "0-0 1-1 2-3");
        split(",,", "a,,,b", "0-1 3-5");
        split("a*", "bab", "0-1 2-2 2-3");
        split("a*", "aab", "0-0 2-2 2-3");
        split("^a", "aab", "0-0 1-3");
        split(",|(?<=b)", "ab,c", "0-2 3-4");
        split("(?<=b)|,", "ab,c", "0-2 2-4");
        split("(?<=b)|,", "ab,,c", "0-2 2-3 4-5");
    }

    // "an empty match at place 0 left out"
    private static void emptyMatchAtFirstPlace() {
        split("", "a", "0-1");
        split("", "ab", "0-1 1-2");
        split("^", "ab", "0-2");
        split("^", "", "0-0");
        split("^|b", "abc", "0-1 2-3");
        split("a|^", "ab", "0-0 1-2");
        split("^|a", "ab", "0-2");
        split("^|a", "aab", "0-1 2-3");
        split("^|b", "ab", "0-1");
        split("(?=a)", "aa", "0-1 1-2");
        split("(?<=^a)", "aa", "0-1 1-2");
        split("\\b", "ab-c", "0-2 2-3 3-4");
        split("a?", "ab", "0-0 1-1 1-2");
        split("a?", "ba", "0-1");
        split("a??", "ab", "0-1 1-2");
    }

    // "empty ones at the end fall out"
    private static void emptyPiecesAtEnd() {
        split(",", "a,", "0-1");
        split(",", "a,,", "0-1");
        split(",", "a,,,,,,,", "0-1");
        split(",", ",a,", "0-0 1-2");
        split(",", ",,a,,", "0-0 1-1 2-3");
        split("$", "ab", "0-2");
        split("b*", "ab", "0-1");
        split(",|$", "a,", "0-1");
        split(",", ",", "");
        split(",", ",,", "");
        split(",", ",,,,,,,,", "");
        split(".", "abcdefgh", "");
        split(".*", "abcdefgh", "");
        split("a", "a", "");
        split("a*", "a", "");
        split("a|^", "a", "");
    }

    // "but the whole text is a piece, also an empty one, if no match is left"
    private static void wholeText() {
        split("x", "", "0-0");
        split("x", "a", "0-1");
        split("x", "abcdefgh", "0-8");
        split("", "", "0-0");
        split("$", "", "0-0");
        split("a*", "", "0-0");
        split("^", "a", "0-1");
        split("^", "abcdefgh", "0-8");
        split("(?!)", "ab", "0-2");
    }

    private static void mostPieces() {
        split("", "abcdefgh", "0-1 1-2 2-3 3-4 4-5 5-6 6-7 7-8");
        split("a??", "aaaaaaaa", "0-1 1-2 2-3 3-4 4-5 5-6 6-7 7-8");
        split("a?", "abcdefgh", "0-0 1-1 1-2 2-3 3-4 4-5 5-6 6-7 7-8");
        split(",", ",,,,,,,a", "0-0 1-1 2-2 3-3 4-4 5-5 6-6 7-8");
    }

    // "Where piece k of the latest split() begins (what = 0), ends (1)"
    private static void latestSplit() {
        PatternMatcher x = Check.with(",", "a,b,c");
        x.split();
        Check.due("pieces", Check.pieces(x), "0-1 2-3 4-5");
        Check.fill(x, 1, "abc,d");
        Check.due("pieces after the text was typed", Check.pieces(x), "0-1 2-3 4-5");
        x.split();
        Check.due("pieces, fewer", Check.pieces(x), "0-3 4-5");
        Check.fill(x, 1, ",,");
        x.split();
        Check.due("no pieces", Check.pieces(x), "");
        x.clear(1);
        x.split();
        Check.due("pieces of nothing", Check.pieces(x), "0-0");
        Check.fill(x, 0, "(");
        Check.due("compile() of (", x::compile, NO_FIT);
        Check.due("find(1)", () -> x.find(1), NO_INDEX);
        Check.due("pieces, after exceptions", Check.pieces(x), "0-0");
    }

    // piece: "IndexOutOfBoundsException if there is no such piece"
    private static void noSuchPiece() {
        String[] texts = {",", "a", "a,b", "a,b,c", "a,b,c,d"};
        for (int count = 0; count < texts.length; count++) {
            String text = texts[count];
            State.Start start = () -> withTemplate(",", text, "-");
            for (int k = 0; k < count; k++) {
                int piece = k;
                int last = count == 1 ? 1 : 2 * k + 1;
                State.kept("piece(" + k + ", 0) of " + text, start, x -> x.piece(piece, 0), 2 * k);
                State.kept("piece(" + k + ", 1) of " + text, start, x -> x.piece(piece, 1), last);
            }
            for (int k : new int[] {Integer.MIN_VALUE, Integer.MIN_VALUE + 1, -2, -1, count, count + 1, 8, 9, 10, 11,
                256, 65536, Integer.MAX_VALUE - 1, Integer.MAX_VALUE}) {
                for (int what : new int[] {0, 1, -1, 2}) {
                    State.kept("piece(" + k + ", " + what + ") of " + text, start, x -> x.piece(k, what), NO_INDEX);
                }
            }
        }
    }

    // piece: "-1 if there is no such what"
    private static void noSuchWhat() {
        State.Start start = () -> withTemplate(",", "a,b", "-");
        for (int what : new int[] {Integer.MIN_VALUE, Integer.MIN_VALUE + 1, -2, -1, 2, 3, 256, 257, 65536, 65537,
            Integer.MAX_VALUE - 1, Integer.MAX_VALUE}) {
            State.kept("piece(0, " + what + ")", start, x -> x.piece(0, what), -1);
            State.kept("piece(1, " + what + ")", start, x -> x.piece(1, what), -1);
            State.kept("piece(2, " + what + ")", start, x -> x.piece(2, what), NO_INDEX);
        }
        State.kept("piece(1, 0)", start, x -> x.piece(1, 0), 2);
        State.kept("piece(1, 1)", start, x -> x.piece(1, 1), 3);
    }
}
