import java.util.ArrayList;
import java.util.List;
import java.util.Random;

/** Patterns made by chance, always the same ones, against the terms of the document taken word for word. */
public final class WaysTest {
    private static final String[] ATOMS = {"a", "b", "a", "b", ".", "\\d", "\\w", "^", "$", "\\b", "\\B", "\\1", "\\2",
        "\\3", "[ab]", "[^a]", "[a-b]", "\\-", "()", "", "1"};
    private static final String[] LOOPS = {"?", "*", "+", "{2}", "{1,}", "{0,2}", "{2,4}", "{0}", "{4,}", "{2,}"};
    private static final String[] OPENS = {"(", "(", "(", "(", "(?:", "(?=", "(?!", "(?<=", "(?<!", "(?>"};
    private static final String[] TEXTS = {"a", "b", "a", "b", "a", "b", "1", "-", " "};
    private static final String SIGNS = "ab01259|()[]{}*+?.^$\\-,:=!<>dwbB_ ";

    private final Random random;
    // A new object first has the pattern before, twice, so that what that leaves behind would show.
    private String before = "";

    private WaysTest(long seed) {
        random = new Random(seed);
    }

    public static void main(String[] args) {
        int patterns = args.length > 0 ? Integer.parseInt(args[0]) : 20000;
        long seed = args.length > 1 ? Long.parseLong(args[1]) : 1;
        WaysTest test = new WaysTest(seed);
        for (int i = 0; i < patterns; i++) {
            test.compare(test.pattern());
            test.compareReading(test.signs());
        }
        Check.done();
    }

    private String any(String[] of) {
        return of[random.nextInt(of.length)];
    }

    private String pattern() {
        String s;
        do {
            s = choice(random.nextInt(5));
        } while (s.length() > 14);
        return s;
    }

    private String choice(int depth) {
        StringBuilder s = new StringBuilder(sequence(depth));
        while (random.nextInt(4) == 0) {
            s.append('|').append(sequence(depth));
        }
        return s.toString();
    }

    private String sequence(int depth) {
        StringBuilder s = new StringBuilder();
        int pieces = random.nextInt(8) == 0 ? 0 : 1 + random.nextInt(2);
        for (int i = 0; i < pieces; i++) {
            s.append(depth > 0 && random.nextInt(3) > 0 ? any(OPENS) + choice(depth - 1) + ")" : any(ATOMS));
            if (random.nextInt(2) == 0) {
                s.append(any(LOOPS)).append(any(new String[] {"", "", "?", "+"}));
            }
        }
        return s.toString();
    }

    /** Signs by chance: mostly no pattern, or a pattern with one sign changed. */
    private String signs() {
        StringBuilder s = new StringBuilder(random.nextInt(2) == 0 ? pattern() : "");
        if (s.length() > 0) {
            s.setCharAt(random.nextInt(s.length()), SIGNS.charAt(random.nextInt(SIGNS.length())));
            return s.toString();
        }
        int size = random.nextInt(8);
        for (int i = 0; i < size; i++) {
            s.append(SIGNS.charAt(random.nextInt(SIGNS.length())));
        }
        return s.toString();
    }

    private String text() {
        StringBuilder s = new StringBuilder();
        int size = random.nextInt(9);
        boolean plain = random.nextInt(3) == 0;
        for (int i = 0; i < size; i++) {
            s.append(plain ? "a" : any(TEXTS));
        }
        return s.toString();
    }

    private static Object groupsDue(String pattern) {
        try {
            return new Ways(pattern, "").groups();
        } catch (Ways.NoPattern e) {
            return "IllegalArgumentException";
        }
    }

    private void compareReading(String pattern) {
        PatternMatcher x = new PatternMatcher();
        Check.fill(x, 0, pattern);
        Check.due("compile() of " + pattern, x::compile, groupsDue(pattern));
    }

    private void compare(String pattern) {
        compareReading(pattern);
        try {
            new Ways(pattern, "");
        } catch (Ways.NoPattern e) {
            return;
        }
        for (int i = 0; i < 4; i++) {
            String text = text();
            PatternMatcher x = Check.with(before, text);
            x.compile();
            x.find(0);
            Check.fill(x, 0, pattern);
            x.compile();
            try {
                Ways ways = new Ways(pattern, text);
                compareMatches(x, ways, pattern, text);
                compareSuccessive(x, ways, pattern, text);
            } catch (Ways.NoPattern e) {
                throw new IllegalStateException(e);
            }
        }
        before = pattern;
    }

    private static void compareMatches(PatternMatcher x, Ways ways, String pattern, String text) {
        String name = " of " + pattern + " in " + text;
        dueWay(x, "matches()" + name, x.matches(), 0, ways.first(0, text.length()), ways.groups());
        dueWay(x, "looking()" + name, x.looking(), 0, ways.first(0, -1), ways.groups());
        int begin = text.length();
        while (begin >= 0) {
            int place = begin;
            while (place <= text.length() && ways.first(place, -1) == null) {
                place++;
            }
            boolean found = place <= text.length();
            int answer = x.find(begin);
            Check.due("find(" + begin + ")" + name, answer, found ? place : -1);
            dueWay(x, "find(" + begin + ")" + name, answer >= 0, place, found ? ways.first(place, -1) : null,
                ways.groups());
            begin--;
        }
    }

    /** Replaces by <$0>, or <$1> if there is a group, and splits. */
    private static void compareSuccessive(PatternMatcher x, Ways ways, String pattern, String text) {
        int group = ways.groups() > 0 ? 1 : 0;
        Check.fill(x, 2, "<$" + group + ">");
        StringBuilder made = new StringBuilder();
        List<String> pieces = new ArrayList<>();
        int end = 0;
        int pieceFrom = 0;
        boolean left = false;
        int place = 0;
        while (place <= text.length()) {
            List<Integer> way = ways.first(place, -1);
            if (way == null) {
                place++;
                continue;
            }
            int from = group == 0 ? place : way.get(1);
            int to = group == 0 ? way.get(0) : way.get(2);
            made.append(text, end, place).append('<').append(from < 0 ? "" : text.substring(from, to)).append('>');
            end = way.get(0);
            if (end > 0) {
                left = true;
                pieces.add(pieceFrom + "-" + place);
                pieceFrom = end;
            }
            place = end > place ? end : end + 1;
        }
        made.append(text, end, text.length());
        pieces.add(pieceFrom + "-" + text.length());
        while (left && !pieces.isEmpty() && isEmpty(pieces.get(pieces.size() - 1))) {
            pieces.remove(pieces.size() - 1);
        }
        dueMade(x, " of " + pattern + " in " + text, made.toString());
        duePieces(x, " of " + pattern + " in " + text, pieces);
    }

    private static boolean isEmpty(String piece) {
        return piece.charAt(0) == piece.charAt(2);
    }

    private static void dueMade(PatternMatcher x, String name, String want) {
        int size = x.replace();
        StringBuilder made = new StringBuilder();
        for (int i = 0; i < size; i++) {
            made.append(x.replaced(i));
        }
        Check.due("replace()" + name, made.toString(), want);
    }

    private static void duePieces(PatternMatcher x, String name, List<String> want) {
        int count = x.split();
        List<String> pieces = new ArrayList<>();
        for (int k = 0; k < count; k++) {
            pieces.add(x.piece(k, 0) + "-" + x.piece(k, 1));
        }
        Check.due("split()" + name, pieces, want);
    }

    private static void dueWay(PatternMatcher x, String name, boolean found, int from, List<Integer> way, int groups) {
        Check.due(name, found, way != null);
        if (way == null) {
            Check.due(name + ", start(0)", () -> x.start(0), "IllegalStateException");
            return;
        }
        StringBuilder want = new StringBuilder(from + "-" + way.get(0));
        for (int group = 1; group <= groups; group++) {
            int begin = way.get(2 * group - 1);
            want.append(begin < 0 ? " ." : " " + begin + "-" + way.get(2 * group));
        }
        Check.due(name + ", spans", Check.spans(x), want.toString());
    }
}
