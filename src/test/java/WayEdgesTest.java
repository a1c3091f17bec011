/** The edges of the ways and of promises 5 to 9; above each test the words it is for. */
public final class WayEdgesTest {
    private static final String NO_STATE = "IllegalStateException";
    private static final String NO_INDEX = "IndexOutOfBoundsException";

    public static void main(String[] args) {
        oneCharacter();
        firstAndLastPlace();
        wordEdges();
        backReferenceThatFits();
        groupWithoutSpan();
        groupSpans();
        together();
        sequencesInOrder();
        choicesInOrder();
        loopBelowItsLeast();
        loopThatTookNothing();
        greedyAndLazy();
        loopSpansStay();
        possessive();
        atomic();
        ahead();
        negativeAhead();
        behindFromHereToTheFirstPlace();
        behindEndsJustHere();
        negativeBehind();
        noSpansAtFirst();
        wholeText();
        lookingAtTheFirstPlace();
        findToTheLastPlace();
        findFromAPlace();
        findFromNoPlace();
        noPatternCompiled();
        elseThereIsNoMatch();
        noMatchNoSpan();
        noSuchGroup();
        Check.done();
    }

    /** The match that find(0) makes, as from-to of the groups 0 .. n, a dot for no span; - if there is none. */
    private static void found(String pattern, String text, String want) {
        PatternMatcher x = Check.with(pattern, text);
        int answer = x.find(0);
        Check.due("find(0) of " + pattern + " in " + text, Check.match(x), want);
        Check.due("answer of find(0) of " + pattern + " in " + text, "" + answer,
            want.equals("-") ? "-1" : want.substring(0, want.indexOf('-')));
    }

    private static void whole(String pattern, String text, String want) {
        PatternMatcher x = Check.with(pattern, text);
        Check.due("matches() of " + pattern + " with " + text, x.matches(), !want.equals("-"));
        Check.due("match of " + pattern + " with " + text, Check.match(x), want);
    }

    /** At which places of the text there is a match, one after the other. */
    private static void places(String pattern, String text, String want) {
        PatternMatcher x = Check.with(pattern, text);
        StringBuilder places = new StringBuilder();
        for (int place = 0; place <= text.length(); place++) {
            places.append(x.find(place) == place ? place : "");
        }
        Check.due("places of " + pattern + " in " + text, places.toString(), want);
    }

    // "A character, ., a class: one way, one place on, if the character there is right."
    private static void oneCharacter() {
        for (String one : new String[] {"a", ".", "\\w", "[a]", "[^b]", "[ab]", "[a-b]", "[`-a]"}) {
            places(one, "", "");
            places(one, "a", "0");
            found(one, "a", "0-1");
            found(one + one, "a", "-");
            found(one + one, "aa", "0-2");
            places(one, "aaaaaaaa", "01234567");
            whole(one + "{4}", "aaa", "-");
            whole(one + "{4}", "aaaa", "0-4");
            whole(one + "{4}", "aaaaa", "-");
        }
        for (String one : new String[] {"a", "\\w", "[a]", "[^b]", "[ab]", "[a-b]"}) {
            found(one, one.equals("[^b]") ? "b" : "-", "-");
        }
        found("........", "abcdefgh", "0-8");
        found(".........", "abcdefgh", "-");
    }

    // "^ the place 0, $ the last place"; "one way, where they are"
    private static void firstAndLastPlace() {
        places("^", "", "0");
        places("$", "", "0");
        places("^", "a", "0");
        places("$", "a", "1");
        places("^", "aaaaaaaa", "0");
        places("$", "aaaaaaaa", "8");
        places("^a", "aa", "0");
        places("a^", "aa", "");
        places("a$", "aa", "1");
        places("$a", "aa", "");
        places("^$", "", "0");
        places("^$", "a", "");
        places("^a$", "a", "0");
        found("^^a$$", "a", "0-1");
    }

    // "\b a place with a letter, digit or _ on exactly one side, \B a place that is none such"
    private static void wordEdges() {
        places("\\b", "", "");
        places("\\B", "", "0");
        places("\\b", "ab", "02");
        places("\\B", "ab", "1");
        places("\\b", "-a-", "12");
        places("\\B", "-a-", "03");
        places("\\b", "--", "");
        places("\\B", "--", "012");
        places("\\b", "aaaaaaaa", "08");
        places("\\B", "aaaaaaaa", "1234567");
        places("\\b", "a       ", "01");
        places("\\b", "       a", "78");
        for (char c = 32; c < 127; c++) {
            boolean word = c >= '0' && c <= '9' || c >= 'A' && c <= 'Z' || c >= 'a' && c <= 'z' || c == '_';
            places("\\b", "" + c, word ? "01" : "");
            places("\\B", "" + c, word ? "" : "01");
        }
        found("\\b\\b", "a", "0-0");
    }

    // "A back reference: one way, as many places on as the span of the group has, if the same characters are there"
    private static void backReferenceThatFits() {
        found("()\\1", "", "0-0 0-0");
        found("a()\\1", "a", "0-1 1-1");
        found("(a)\\1", "a", "-");
        found("(a)\\1", "aa", "0-2 0-1");
        found("(a)\\1", "aaa", "0-2 0-1");
        found("(aa)\\1", "aaa", "-");
        found("(aa)\\1", "aaaa", "0-4 0-2");
        found("(.{4})\\1", "abcdabc", "-");
        found("(.{4})\\1", "abcdabcd", "0-8 0-4");
        found("(.{4})\\1", "abcdabce", "-");
        found("(.{4})\\1", "abcdxbcd", "-");
        found("(.)\\1", "aA", "-");
        found("(?=(.*))\\1", "abcdefgh", "0-8 0-8");
        found("(?=(.*))\\1", "", "0-0 0-0");
        found("()()()(a)\\4", "aa", "0-2 0-0 0-0 0-0 0-1");
        found("()()()(a)\\4", "a", "-");
        found("(a)(b)\\1\\2", "abab", "0-4 0-1 1-2");
        found("(a)(b)\\1\\2", "abaa", "-");
        found("(a|b)*\\1", "abb", "0-3 1-2");
        found("(a*)a*\\1$", "aaa", "0-3 0-1");
        found("()(a*)a*\\2$", "aaa", "0-3 0-0 0-1");
        found("(a*)a*\\1b", "ab", "0-2 0-0");
        found("(a+|\\1){2}", "aaaaaaaa", "0-8 7-8");
    }

    // "none, if the group has no span"
    private static void groupWithoutSpan() {
        found("(a)?\\1", "", "-");
        found("(a)?\\1", "b", "-");
        found("(a){0}\\1", "aa", "-");
        found("(a)|\\1", "b", "-");
        found("(a)|b\\1", "b", "-");
        found("(a\\1)", "aa", "-");
        found("(\\1)", "", "-");
        found("(\\1|a)*", "aa", "0-2 1-2");
        found("(?!(a))\\1", "b", "-");
        found("(?!(a))\\1?b", "b", "0-1 .");
        found("(a)?\\1?b", "b", "0-1 .");
        found("(a?)\\1", "b", "0-0 0-0");
    }

    // "A group: the ways of its choice, each with its span from the place before to the one behind it."
    private static void groupSpans() {
        found("()", "", "0-0 0-0");
        found("(a)", "a", "0-1 0-1");
        found("a()", "a", "0-1 1-1");
        found("(........)", "abcdefgh", "0-8 0-8");
        found("(.{4}.{4})()", "abcdefgh", "0-8 0-8 8-8");
        found("(a|ab)(c|bc)$", "abc", "0-3 0-1 1-3");
        found("(ab|a)(bc|c)$", "abc", "0-3 0-2 2-3");
    }

    // "(?: the ways of its choice."
    private static void together() {
        found("(?:)", "", "0-0");
        found("(?:a|ab)", "ab", "0-1");
        found("(?:a|ab)$", "ab", "0-2");
        found("(?:a|ab)c", "abc", "0-3");
        found("(?:a|ab)(c)", "abc", "0-3 2-3");
        found("(?:(a)|b)+", "ab", "0-2 0-1");
        whole("(?:a|ab)", "ab", "0-2");
        whole("(?:ab)?", "ab", "0-2");
        whole("(?:ab)?", "a", "-");
    }

    // "A sequence: for each way of its first piece, in order, those of the rest from there."; "the next one is looked
    // for when what follows has no way from there"
    private static void sequencesInOrder() {
        found("(a|ab)(c|bc)", "abc", "0-3 0-1 1-3");
        found("(ab|a)(c|bc)", "abc", "0-3 0-2 2-3");
        found("(a|ab)(c|bc)d", "abcd", "0-4 0-1 1-3");
        found("(a|ab)(c|bcd)d", "abcd", "0-4 0-2 2-3");
        found("(a|ab)(c|bcd)e", "abcd", "-");
        found("(a*)(a*)", "aaa", "0-3 0-3 3-3");
        found("(a*?)(a*)", "aaa", "0-3 0-0 0-3");
        found("(a*)(a*?)a", "aaa", "0-3 0-2 2-2");
        found("(a?)(a?)(a)", "aa", "0-2 0-1 1-1 1-2");
        found("(a??)(a?)(a)", "aa", "0-2 0-0 0-1 1-2");
        whole("(a??)(a?)(a*)", "aaa", "0-3 0-0 0-1 1-3");
        whole("(a?)(a??)(a?)", "aaa", "0-3 0-1 1-2 2-3");
        whole("(a?)(a??)(a?)", "aa", "0-2 0-1 1-1 1-2");
        whole("(a?)(a??)(a?)", "aaaa", "-");
    }

    // "A choice: those of the first sequence, then those of the second, and so on."
    private static void choicesInOrder() {
        found("a|ab|abc", "abc", "0-1");
        found("abc|ab|a", "abc", "0-3");
        found("abcd|ab|a", "abc", "0-2");
        found("|a", "a", "0-0");
        found("(|a|ab)$", "ab", "0-2 0-2");
        found("(a|ab|abc)d", "abcd", "0-4 0-3");
    }

    // "if k is less than its least: the ways of its atom, and for each the loop": also behind a time that took nothing
    private static void loopBelowItsLeast() {
        found("(|a){2}$", "a", "0-1 0-1");
        found("(|a){2}$", "aa", "0-2 1-2");
        found("(|a){2}$", "aaa", "1-3 2-3");
        found("^(|a){2}$", "aaa", "-");
        found("^(|a){4}$", "aaaa", "0-4 3-4");
        found("^(|a){4}$", "aaaaa", "-");
        found("^(|a){4}$", "", "0-0 0-0");
        found("(){4}", "", "0-0 0-0");
        found("(){4,}", "", "0-0 0-0");
        found("(){0}", "", "0-0 .");
        found("(a){1}", "", "-");
        found("\\b{4}a", "a", "0-1");
        found("(?=a){4}a", "a", "0-1");
        found("(?=a){4}b", "b", "-");
    }

    // "Else it may go ON, if .. the latest time, if there was one, took at least one character"
    private static void loopThatTookNothing() {
        found("()*", "", "0-0 0-0");
        found("(){1,2}", "", "0-0 0-0");
        found("(|a)*", "a", "0-0 0-0");
        found("^(|a)*$", "a", "0-1 1-1");
        found("^(|a)*?$", "a", "0-1 0-1");
        found("^(|a)+$", "a", "0-1 1-1");
        found("^(|a){0,2}$", "aa", "0-2 1-2");
        found("^(|a){0,1}$", "a", "0-1 0-1");
        found("^(|a){0,1}$", "aa", "-");
        found("^(?:|a){1,2}$", "aa", "0-2");
        found("^(?:|a){1,2}$", "aaa", "-");
        found("(a|)*", "aa", "0-2 2-2");
        found("(a|){0,2}", "aaa", "0-2 1-2");
        found("(a|){0,3}", "aa", "0-2 2-2");
        found("(a|){0,4}", "aaaaaaaa", "0-4 3-4");
        found("(a*)*", "", "0-0 0-0");
        found("(a*)*", "aa", "0-2 2-2");
        found("(a*?)*", "aa", "0-0 0-0");
        found("(a*)+?", "aa", "0-2 0-2");
        found("()\\1*a", "a", "0-1 0-0");
        found("()(\\1)*", "", "0-0 0-0 0-0");
        found("(?>a)*", "aa", "0-2");
        found("(?:a{2}+)*", "aaaaa", "0-4");
        found("((a*)*)*", "a", "0-1 1-1 1-1");
        found("(?:(?=a)|a)*$", "aa", "0-2");
        found("^(\\b|a)*$", "aa", "0-2 2-2");
        found("^(a|\\b)*$", "aa", "0-2 2-2");
        found("(^|a)*", "aa", "0-0 0-0");
    }

    // "GREEDY: on, then end. LAZY: end, then on."
    private static void greedyAndLazy() {
        found("a{1,3}", "aaaa", "0-3");
        found("a{1,3}?", "aaaa", "0-1");
        found("a{0,3}?", "aaaa", "0-0");
        whole("(a{1,3})(a*)", "aaaa", "0-4 0-3 3-4");
        whole("(a{1,3}?)(a*)", "aaaa", "0-4 0-1 1-4");
        whole("(a{1,3}?)(a?)", "aaaa", "0-4 0-3 3-4");
        found("(a{1,3})a{3}", "aaaaa", "0-5 0-2");
        found("(a{1,3}?)a{3}", "aaaaa", "0-4 0-1");
        found("(a{1,3}?)b", "aaab", "0-4 0-3");
        found("(a{1,3}?)b", "aaaab", "1-5 1-4");
        found("(a+)(b*)", "aabb", "0-4 0-2 2-4");
        found("(a+?)(b*)", "aabb", "0-1 0-1 1-1");
        found("(a|ab)*", "abab", "0-1 0-1");
        found("(a|ab)*$", "abab", "0-4 2-4");
        found("(a|ab)*?b", "abab", "0-2 0-1");
        found("(.*)(b.*)", "abab", "0-4 0-3 3-4");
        found("(.*?)(b.*)", "abab", "0-4 0-1 1-4");
    }

    // "Spans stay from one time to the next."
    private static void loopSpansStay() {
        found("(?:(a)|(b))*", "ab", "0-2 0-1 1-2");
        found("(?:(a)|b)*", "abb", "0-3 0-1");
        found("(?:(a)|b)*", "bb", "0-2 .");
        found("((a)?b)*", "abb", "0-3 2-3 0-1");
        found("((a)?b){2}\\2", "abba", "0-4 2-3 0-1");
    }

    // "POSSESSIVE: the first way of the greedy loop alone."
    private static void possessive() {
        found("a*+a", "", "-");
        found("a*+a", "a", "-");
        found("a*+b", "aab", "0-3");
        found("a?+a", "a", "-");
        found("a?+a", "aa", "0-2");
        found("a++a", "aa", "-");
        found("a++", "", "-");
        found("a{1,2}+a", "aa", "-");
        found("a{1,2}+a", "aaa", "0-3");
        found("a{2}+a", "aa", "-");
        found("a{2}+a", "aaa", "0-3");
        found("^(a|ab)?+c", "abc", "-");
        found("^(a|ab)?c", "abc", "0-3 0-2");
        found("(|a)*+a", "aa", "0-1 0-0");
        found("(a)?+b", "b", "0-1 .");
    }

    // "ATOMIC: the first way of its choice alone."
    private static void atomic() {
        found("(?>)", "", "0-0");
        found("(?>a)", "", "-");
        found("(?>|a)b", "ab", "1-2");
        found("(?>a|ab)$", "ab", "-");
        found("(?>ab|a)$", "ab", "0-2");
        found("(?>a?)a", "a", "-");
        found("(?>a??)a", "a", "0-1");
        found("(?>(a)|(b))", "b", "0-1 . 0-1");
        found("(?>a|b){2}", "ab", "0-2");
        found("(?>a*){2}", "", "0-0");
        found("(?:a*+){2}", "", "0-0");
    }

    // "AHEAD: (?= one way, where it is, with the spans of the first way of its choice; none, if that has none."
    private static void ahead() {
        places("(?=a)", "aab", "01");
        places("(?=)", "ab", "012");
        places("(?=$)", "ab", "2");
        places("(?=a)", "", "");
        found("(?=(a|ab))ab", "ab", "0-2 0-1");
        found("(?=(a|ab))a$", "ab", "-");
        found("(?=(a*))", "aa", "0-0 0-2");
        found("(?=(a*?))", "aa", "0-0 0-0");
        found("(?=(a*))a\\1", "aaa", "-");
        found("(?=.{4}.{4}$)", "abcdefgh", "0-0");
        found("(?=.{4}.{4}.)", "abcdefgh", "-");
        found("(?=a)*b", "b", "0-1");
        found("(?=a*){2}", "a", "0-0");
        found("(?=(a)|)", "b", "0-0 .");
    }

    // "(?! one way, with the spans as they were, if its choice has none."
    private static void negativeAhead() {
        places("(?!a)", "aab", "23");
        places("(?!)", "ab", "");
        places("(?!$)", "ab", "01");
        places("(?!a)", "", "0");
        found("(?!(a)b)a", "aa", "0-1 .");
        found("(a)(?!(b)c)", "ab", "0-1 0-1 .");
        found("(a)(?!\\1)", "aab", "1-2 1-2");
        found("(?!(?!(a)))a", "a", "0-1 .");
    }

    // "BEHIND: .. of those that begin here, then of those that begin one place before, and so on to place 0."
    private static void behindFromHereToTheFirstPlace() {
        places("(?<=)", "ab", "012");
        places("(?<=^)", "ab", "0");
        places("(?<=^.)", "aaaaaaaa", "1");
        places("(?<=^.{4})", "aaaaaaaa", "4");
        places("(?<=^.{4}.{3})", "aaaaaaaa", "7");
        places("(?<=^.{4}.{4})", "aaaaaaaa", "8");
        places("(?<=^.{4}.{4})", "aaaaaaa", "");
        places("(?<=........)", "aaaaaaaa", "8");
        places("(?<=.........)", "aaaaaaaa", "");
        places("(?<=a)", "", "");
        places("(?<=a)", "a", "1");
        places("(?<=a?)", "a", "01");
        found("(?<=(|a))b", "ab", "1-2 1-1");
        found("(?<=(a|))b", "ab", "1-2 1-1");
        found("(?<=(a?))b", "ab", "1-2 1-1");
        found("(?<=(aa|a))b", "aab", "2-3 1-2");
        found("(?<=(a{1,4}))b", "aaaab", "4-5 3-4");
        found("(?<=(a{2,4}))b", "aaaab", "4-5 2-4");
        places("(?<=^(a{0,4}))", "aaaaaa", "01234");
        findFrom("(?<=^(a{0,4}))", "aaaaaa", 4, "4-4 0-4");
        findFrom("(?<=^(a{0,4}))", "aaaaaa", 5, "-");
    }

    // "the ways of its choice that end just here"
    private static void behindEndsJustHere() {
        places("(?<=ab)", "ab", "2");
        places("(?<=ab|a)", "ab", "12");
        places("(?<=a|ab)", "ab", "12");
        places("(?<=a.)", "abc", "2");
        places("(?<=a$)", "aa", "2");
        places("(?<=a(?=b))", "ab", "1");
        places("(?<=a(?=b).)", "ab", "2");
        places("(?<=(?>a|ab))", "ab", "1");
        places("(?<=(?>ab|a))", "ab", "2");
        places("(?<=a{1,2}+)", "aaa", "23");
        found("(?<=(ab|a))b", "ab", "1-2 0-1");
        found("(?<=(a)|(b))c", "bc", "1-2 . 0-1");
        found("(?<=..|(a)c)b", "xab", "2-3 .");
    }

    // BEHIND, (?<! "the same": a way with the spans as they were, if there is none that ends just here
    private static void negativeBehind() {
        places("(?<!)", "ab", "");
        places("(?<!^)", "ab", "12");
        places("(?<!a)", "ab", "02");
        places("(?<!a)", "", "0");
        places("(?<!ab)", "ab", "01");
        places("(?<!a?)", "ab", "");
        places("(?<!^.{4}.{4})", "aaaaaaaa", "01234567");
        found("(?<!(a))b", "bb", "0-1 .");
        found("(?<!(a)c)b", "ab", "1-2 .");
    }

    // "A MATCH is the first way from a place (with no spans at first)"
    private static void noSpansAtFirst() {
        PatternMatcher x = Check.with("(a)|b", "ab");
        x.find(0);
        Check.due("match of find(0)", Check.match(x), "0-1 0-1");
        x.find(1);
        Check.due("match of find(1)", Check.match(x), "1-2 .");
        found("(a)c|b", "ab", "1-2 .");
        found("(a)?+(?:c|b)", "ab", "0-2 0-1");
        found("(?:(a)c)?b", "ab", "1-2 .");
        found("(a)c|\\1b", "ab", "-");
    }

    // "with MATCHES of the whole text the first of the ways that end at its end"; "Whether the whole text matches"
    private static void wholeText() {
        whole("", "", "0-0");
        whole("", "a", "-");
        whole("a", "", "-");
        whole("a", "a", "0-1");
        whole("a", "aa", "-");
        whole("aa", "a", "-");
        whole("a|ab|abc", "abc", "0-3");
        whole("a|ab", "abc", "-");
        whole("(a|ab)(b|c|)", "ab", "0-2 0-1 1-2");
        whole("(ab|a)(b|c|)", "ab", "0-2 0-2 2-2");
        whole("a*?", "aaaaaaaa", "0-8");
        whole("a{0,4}?", "aaaa", "0-4");
        whole("a{0,4}?", "aaaaa", "-");
        whole("b", "ab", "-");
        whole("(?>a|ab)", "ab", "-");
        whole("a(?=b)", "ab", "-");
        whole("(a?)(a??)a*", "aaa", "0-3 0-1 1-1");
    }

    // "Whether there is a match at place 0"
    private static void lookingAtTheFirstPlace() {
        String[][] rows = {{"", "", "0-0"}, {"", "a", "0-0"}, {"a", "", "-"}, {"a", "ab", "0-1"}, {"b", "ab", "-"},
            {"$", "a", "-"}, {"$", "", "0-0"}, {"(?<=a)", "a", "-"}, {"a|ab", "ab", "0-1"}, {"(a)|b", "ba", "0-1 ."},
            {"........", "abcdefgh", "0-8"}, {".........", "abcdefgh", "-"}};
        for (String[] row : rows) {
            PatternMatcher x = Check.with(row[0], row[1]);
            Check.due("looking() of " + row[0] + " in " + row[1], x.looking(), !row[2].equals("-"));
            Check.due("its match", Check.match(x), row[2]);
        }
    }

    // "FIND looks for one from a place, then from the next one, to the last place."; "-1 if there is none"
    private static void findToTheLastPlace() {
        found("b", "aaaaaaab", "7-8");
        found("b", "aaaaaaaa", "-");
        found("$", "aaaaaaaa", "8-8");
        found("(?<=b)", "aaaaaaab", "8-8");
        found("$b", "aaaaaaab", "-");
        found("", "aaaaaaaa", "0-0");
        found("ab", "aaaaaaab", "6-8");
    }

    private static void findFromAPlace() {
        for (int size = 0; size <= 8; size++) {
            String text = "a".repeat(size);
            for (int from = 0; from <= size; from++) {
                findFrom("", text, from, from + "-" + from);
                findFrom("$", text, from, size + "-" + size);
                findFrom("^", text, from, from == 0 ? "0-0" : "-");
                findFrom("a", text, from, from < size ? from + "-" + (from + 1) : "-");
                findFrom("a*", text, from, from + "-" + size);
                findFrom("aa", text, from, from + 2 <= size ? from + "-" + (from + 2) : "-");
                findFrom("(?<=a)", text, from, size == 0 ? "-" : Math.max(1, from) + "-" + Math.max(1, from));
            }
        }
    }

    private static void findFrom(String pattern, String text, int from, String want) {
        PatternMatcher x = Check.with(pattern, text);
        int answer = x.find(from);
        Check.due("find(" + from + ") of " + pattern + " in " + text, Check.match(x), want);
        Check.due("its answer", answer, want.equals("-") ? -1 : want.charAt(0) - '0');
    }

    // "with places 0 .. its length"; "IndexOutOfBoundsException if there is no such place"
    private static void findFromNoPlace() {
        for (int size = 0; size <= 8; size++) {
            String text = "a".repeat(size);
            int[] froms = {Integer.MIN_VALUE, Integer.MIN_VALUE + 1, -2, -1, size + 1, size + 2, 9, 15, 16, 256, 65536,
                Integer.MAX_VALUE - 1, Integer.MAX_VALUE};
            for (int from : froms) {
                State.Start start = () -> {
                    PatternMatcher x = Check.with("(a*)", text);
                    x.find(0);
                    return x;
                };
                State.kept("find(" + from + ") in " + text, start, x -> x.find(from), NO_INDEX);
                State.kept("find(" + from + ") in " + text + " without a pattern", () -> typed(text), x -> x.find(from),
                    NO_INDEX);
            }
        }
    }

    private static PatternMatcher typed(String text) {
        PatternMatcher x = new PatternMatcher();
        Check.fill(x, 0, "a");
        Check.fill(x, 1, text);
        return x;
    }

    // "IllegalStateException if no pattern is compiled"
    private static void noPatternCompiled() {
        State.Start[] starts = {PatternMatcher::new, () -> typed(""), () -> typed("a"), () -> typed("aaaaaaaa"), () -> {
            PatternMatcher x = typed("a");
            x.type(0, '(');
            Check.due("compile() of a(", x::compile, "IllegalArgumentException");
            return x;
        }};
        for (State.Start start : starts) {
            int size = start.make().length(1);
            State.kept("matches() without a pattern", start, x -> x.matches(), NO_STATE);
            State.kept("looking() without a pattern", start, x -> x.looking(), NO_STATE);
            State.kept("find(0) without a pattern", start, x -> x.find(0), NO_STATE);
            State.kept("find(" + size + ") without a pattern", start, x -> x.find(size), NO_STATE);
        }
        PatternMatcher x = typed("a");
        Check.due("compile()", x::compile, 0);
        Check.due("matches() with a pattern", x.matches(), true);
    }

    // "then that is the match, else there is none"; "-1 if there is none (and no match then)"
    private static void elseThereIsNoMatch() {
        PatternMatcher x = Check.with("(b)", "ab");
        Check.due("find(0)", x.find(0), 1);
        Check.due("matches()", x.matches(), false);
        Check.due("match after matches() that is false", Check.match(x), "-");
        Check.due("find(1)", x.find(1), 1);
        Check.due("match after find(1)", Check.match(x), "1-2 1-2");
        Check.due("looking()", x.looking(), false);
        Check.due("match after looking() that is false", Check.match(x), "-");
        Check.due("find(0)", x.find(0), 1);
        Check.due("find(2)", x.find(2), -1);
        Check.due("match after find(2) that found none", Check.match(x), "-");
        Check.due("find(0)", x.find(0), 1);
        Check.due("match in the place of none", Check.match(x), "1-2 1-2");

        PatternMatcher y = Check.with("a|(ab)|(?<=a)b", "ab");
        y.looking();
        Check.due("match of looking()", Check.match(y), "0-1 .");
        y.matches();
        Check.due("match of matches()", Check.match(y), "0-2 0-2");
        y.find(1);
        Check.due("match of find(1)", Check.match(y), "1-2 .");
    }

    // start, end: "IllegalStateException if there is no match", whatever the group
    private static void noMatchNoSpan() {
        State.Start[] starts = {PatternMatcher::new, () -> Check.with("(a)", "a"), () -> {
            PatternMatcher x = Check.with("(a)", "b");
            Check.due("find(0) of (a) in b", x.find(0), -1);
            return x;
        }};
        for (State.Start start : starts) {
            for (int group : new int[] {Integer.MIN_VALUE, -1, 0, 1, 2, 4, 5, Integer.MAX_VALUE}) {
                State.kept("start(" + group + ") without a match", start, x -> x.start(group), NO_STATE);
                State.kept("end(" + group + ") without a match", start, x -> x.end(group), NO_STATE);
            }
        }
    }

    // "0: the whole match"; "-1 if it has none"; "IndexOutOfBoundsException if the pattern has no such group"
    private static void noSuchGroup() {
        String[] patterns = {"b", "(b)", "(b)(c)?", "(b)(c)?()", "(b)(c)?()(c)?"};
        int[] starts = {1, 1, -1, 2, -1};
        int[] ends = {2, 2, -1, 2, -1};
        for (int groups = 0; groups <= 4; groups++) {
            String pattern = patterns[groups];
            State.Start start = () -> {
                PatternMatcher x = Check.with(pattern, "aba");
                Check.due("find(0) of " + pattern, x.find(0), 1);
                return x;
            };
            for (int group = 0; group <= groups; group++) {
                int g = group;
                State.kept("start(" + g + ") of " + pattern, start, x -> x.start(g), starts[g]);
                State.kept("end(" + g + ") of " + pattern, start, x -> x.end(g), ends[g]);
            }
            int[] none = {Integer.MIN_VALUE, Integer.MIN_VALUE + 1, -2, -1, groups + 1, groups + 2, 5, 9, 256, 65536,
                Integer.MAX_VALUE - 1, Integer.MAX_VALUE};
            for (int group : none) {
                State.kept("start(" + group + ") of " + pattern, start, x -> x.start(group), NO_INDEX);
                State.kept("end(" + group + ") of " + pattern, start, x -> x.end(group), NO_INDEX);
            }
        }
    }
}
