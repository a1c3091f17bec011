/** Asks whether calls that are refused or throw leave all as it was. */
final class State {
    interface Start {
        PatternMatcher make();
    }

    interface On {
        Object answer(PatternMatcher x);
    }

    private State() {
    }

    /** The call answers what is due, and its object then answers all as one that has not gone through it. */
    static void kept(String what, Start start, On call, Object want) {
        PatternMatcher x = start.make();
        PatternMatcher without = start.make();
        Check.due(what, () -> call.answer(x), want);
        Check.due(what + ", what is then asked", all(x), all(without));
    }

    /** An object with a pattern that is no longer in row 0, a match, a replaced text and pieces. */
    static PatternMatcher rich() {
        return rich("x(");
    }

    static PatternMatcher rich(String row0) {
        PatternMatcher x = Check.with("(b)|(c)", "abca");
        Check.fill(x, 2, "<$1>");
        Check.due("replace()", x.replace(), 7);
        Check.due("split()", x.split(), 3);
        Check.due("find(2)", x.find(2), 2);
        Check.fill(x, 0, row0);
        return x;
    }

    /** The same, with all rows full. */
    static PatternMatcher full() {
        PatternMatcher x = Check.with("(a)(?:b|(c))d?", "abacacdc");
        Check.fill(x, 2, "$1-$2\\$1");
        Check.due("replace()", x.replace(), 15);
        Check.due("split()", x.split(), 4);
        Check.due("find(1)", x.find(1), 2);
        return x;
    }

    /** All that can be asked, as text: first what changes nothing, then what each pattern and row does. */
    static String all(PatternMatcher x) {
        StringBuilder s = new StringBuilder();
        for (int row = 0; row < 3; row++) {
            s.append(x.length(row)).append(' ');
        }
        s.append(Check.match(x)).append(" made ").append(Check.made(x)).append(" pieces ").append(Check.pieces(x));
        patternInForce(x, s);
        s.append(" compiled ").append(Check.answer(x::compile));
        patternInForce(x, s);
        x.clear(0);
        s.append(" nothing ").append(x.compile()).append(Check.answer(x::replace)).append(Check.made(x));
        x.type(0, '.');
        x.compile();
        Check.fill(x, 2, "$0");
        return s.append(" text ").append(x.replace()).append(Check.made(x)).toString();
    }

    private static void patternInForce(PatternMatcher x, StringBuilder s) {
        s.append(" matches ").append(Check.answer(x::matches)).append(' ').append(Check.match(x));
        s.append(" looking ").append(Check.answer(x::looking)).append(' ').append(Check.match(x));
        s.append(" find ").append(Check.answer(() -> x.find(0))).append(' ').append(Check.match(x));
        s.append(" replace ").append(Check.answer(x::replace)).append(' ').append(Check.made(x));
        s.append(" split ").append(Check.answer(x::split)).append(' ').append(Check.pieces(x));
    }
}
