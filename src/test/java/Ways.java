import java.util.ArrayList;
import java.util.HashMap;
import java.util.LinkedHashSet;
import java.util.List;
import java.util.Map;
import java.util.Set;

/**
 * The terms of the document, word for word and without regard to cost: a pattern is a tree, and matching it at a place
 * gives the list of all its ways. A way is a list: the place, then from and to of the groups 1 .. 4 (-1: no span).
 * A way that stands in a list already is left out behind it: what follows has had its try from there.
 */
final class Ways {
    static final class NoPattern extends Exception {
        private static final long serialVersionUID = 1L;
    }

    private interface Tree {
        Set<List<Integer>> ways(List<Integer> from);
    }

    private final String pattern;
    private final String text;
    private int at;
    private int groups;
    private int behinds;
    private final Tree whole;

    Ways(String pattern, String text) throws NoPattern {
        this.pattern = pattern;
        this.text = text;
        whole = choice(0);
        need(at == pattern.length());
    }

    int groups() {
        return groups;
    }

    /** The first way from a place, or null; end -1: wherever it ends. */
    List<Integer> first(int from, int end) {
        List<Integer> begin = new ArrayList<>(List.of(from));
        for (int i = 0; i < 8; i++) {
            begin.add(-1);
        }
        for (List<Integer> way : whole.ways(begin)) {
            if (end < 0 || way.get(0) == end) {
                return way;
            }
        }
        return null;
    }

    private static void need(boolean fit) throws NoPattern {
        if (!fit) {
            throw new NoPattern();
        }
    }

    private char peek() {
        return at < pattern.length() ? pattern.charAt(at) : 0;
    }

    private boolean accept(String s) {
        boolean there = pattern.startsWith(s, at);
        at += there ? s.length() : 0;
        return there;
    }

    private Tree choice(int depth) throws NoPattern {
        List<Tree> sequences = new ArrayList<>();
        do {
            sequences.add(sequence(depth));
        } while (accept("|"));
        return kept(from -> {
            Set<List<Integer>> all = new LinkedHashSet<>();
            for (Tree sequence : sequences) {
                all.addAll(sequence.ways(from));
            }
            return all;
        });
    }

    private Tree sequence(int depth) throws NoPattern {
        List<Tree> pieces = new ArrayList<>();
        while (at < pattern.length() && peek() != '|' && peek() != ')') {
            pieces.add(piece(depth));
        }
        return from -> {
            Set<List<Integer>> all = new LinkedHashSet<>();
            inSequence(pieces, 0, from, all);
            return all;
        };
    }

    private static void inSequence(List<Tree> pieces, int i, List<Integer> from, Set<List<Integer>> all) {
        if (i == pieces.size()) {
            all.add(from);
            return;
        }
        for (List<Integer> way : pieces.get(i).ways(from)) {
            inSequence(pieces, i + 1, way, all);
        }
    }

    private Tree piece(int depth) throws NoPattern {
        Tree atom = kept(atom(depth));
        int least = 0;
        int most = Integer.MAX_VALUE;
        if (accept("?")) {
            most = 1;
        } else if (accept("+")) {
            least = 1;
        } else if (accept("{")) {
            least = number();
            most = least;
            if (accept(",")) {
                most = peek() == '}' ? Integer.MAX_VALUE : number();
            }
            need(accept("}"));
        } else if (!accept("*")) {
            return atom;
        }
        need(least <= most);
        need(behinds == 0 || most < Integer.MAX_VALUE);
        boolean lazy = accept("?");
        boolean possessive = !lazy && accept("+");
        int m = least;
        int n = most;
        Tree loop = kept(from -> {
            Set<List<Integer>> all = new LinkedHashSet<>();
            inLoop(atom, new int[] {m, n, lazy ? 1 : 0}, 0, true, from, all, new LinkedHashSet<>());
            return all;
        });
        return possessive ? from -> firstAlone(loop.ways(from)) : loop;
    }

    private int number() throws NoPattern {
        need(peek() >= '0' && peek() <= '4');
        at++;
        return pattern.charAt(at - 1) - '0';
    }

    private static void inLoop(Tree atom, int[] loop, int k, boolean took, List<Integer> from,
            Set<List<Integer>> all, Set<List<Object>> tried) {
        if (!tried.add(List.of(k, took, from))) {
            return;
        }
        boolean mayEnd = k >= loop[0];
        boolean mayGoOn = k < loop[0] || k < loop[1] && took;
        if (mayEnd && loop[2] == 1) {
            all.add(from);
        }
        if (mayGoOn) {
            for (List<Integer> way : atom.ways(from)) {
                inLoop(atom, loop, k + 1, way.get(0) > from.get(0), way, all, tried);
            }
        }
        if (mayEnd && loop[2] == 0) {
            all.add(from);
        }
    }

    private static Set<List<Integer>> firstAlone(Set<List<Integer>> ways) {
        Set<List<Integer>> first = new LinkedHashSet<>();
        if (!ways.isEmpty()) {
            first.add(ways.iterator().next());
        }
        return first;
    }

    /** The same tree from the same way gives the same ways: they are worked out once. */
    private static Tree kept(Tree tree) {
        Map<List<Integer>, Set<List<Integer>>> known = new HashMap<>();
        return from -> {
            Set<List<Integer>> ways = known.get(from);
            if (ways == null) {
                ways = tree.ways(from);
                known.put(from, ways);
            }
            return ways;
        };
    }

    private interface Right {
        boolean right(char c);
    }

    private Tree one(Right right) {
        return from -> {
            int place = from.get(0);
            return place < text.length() && right.right(text.charAt(place)) ? Set.of(moved(from, 1)) : Set.of();
        };
    }

    private interface There {
        boolean there(int place);
    }

    private static Tree where(There there) {
        return from -> there.there(from.get(0)) ? Set.of(from) : Set.of();
    }

    private static List<Integer> moved(List<Integer> from, int by) {
        List<Integer> way = new ArrayList<>(from);
        way.set(0, from.get(0) + by);
        return way;
    }

    private static boolean digit(char c) {
        return "0123456789".indexOf(c) >= 0;
    }

    private static boolean word(char c) {
        return digit(c) || c >= 'a' && c <= 'z' || c >= 'A' && c <= 'Z' || c == '_';
    }

    private boolean edge(int place) {
        boolean before = place > 0 && word(text.charAt(place - 1));
        boolean behind = place < text.length() && word(text.charAt(place));
        return before != behind;
    }

    private Tree atom(int depth) throws NoPattern {
        if (accept("(")) {
            need(depth < 4);
            Tree tree = bracket(depth + 1);
            need(accept(")"));
            return tree;
        }
        if (accept("[")) {
            return items();
        }
        if (accept("\\")) {
            return escaped();
        }
        if (accept(".")) {
            return one(c -> true);
        }
        if (accept("^")) {
            return where(place -> place == 0);
        }
        if (accept("$")) {
            return where(place -> place == text.length());
        }
        char c = peek();
        need("|()[]{}*+?.^$\\".indexOf(c) < 0);
        at++;
        return one(d -> d == c);
    }

    private Tree escaped() throws NoPattern {
        if (accept("d")) {
            return one(Ways::digit);
        }
        if (accept("w")) {
            return one(Ways::word);
        }
        if (accept("b")) {
            return where(this::edge);
        }
        if (accept("B")) {
            return where(place -> !edge(place));
        }
        char c = peek();
        at++;
        if (c >= '1' && c <= '4') {
            need(c - '0' <= groups && behinds == 0);
            return from -> again(from, c - '0');
        }
        need(c != 0 && "|()[]{}*+?.^$\\-".indexOf(c) >= 0);
        return one(d -> d == c);
    }

    private Set<List<Integer>> again(List<Integer> from, int group) {
        int begin = from.get(2 * group - 1);
        if (begin < 0) {
            return Set.of();
        }
        String had = text.substring(begin, from.get(2 * group));
        return text.startsWith(had, from.get(0)) ? Set.of(moved(from, had.length())) : Set.of();
    }

    private Tree items() throws NoPattern {
        boolean none = accept("^");
        List<Right> items = new ArrayList<>();
        do {
            items.add(item());
        } while (!accept("]"));
        return one(c -> {
            boolean in = false;
            for (Right item : items) {
                in |= item.right(c);
            }
            return in != none;
        });
    }

    private Right item() throws NoPattern {
        if (accept("\\")) {
            char c = peek();
            at++;
            need(c != 0 && "[]^-\\dw".indexOf(c) >= 0);
            return c == 'd' ? Ways::digit : c == 'w' ? Ways::word : d -> d == c;
        }
        char from = itemCharacter();
        if (!accept("-")) {
            return c -> c == from;
        }
        char to = itemCharacter();
        need(to >= from);
        return c -> c >= from && c <= to;
    }

    private char itemCharacter() throws NoPattern {
        char c = peek();
        need(c != 0 && "[]^-\\".indexOf(c) < 0);
        at++;
        return c;
    }

    private Tree bracket(int depth) throws NoPattern {
        if (accept("?:")) {
            return choice(depth);
        }
        if (accept("?>")) {
            Tree within = choice(depth);
            return from -> firstAlone(within.ways(from));
        }
        if (accept("?=")) {
            Tree within = choice(depth);
            return from -> backAt(from, firstAlone(within.ways(from)));
        }
        if (accept("?!")) {
            Tree within = choice(depth);
            return from -> within.ways(from).isEmpty() ? Set.of(from) : Set.of();
        }
        if (accept("?<=")) {
            Tree within = behind(depth);
            return from -> firstAlone(within.ways(from));
        }
        if (accept("?<!")) {
            Tree within = behind(depth);
            return from -> within.ways(from).isEmpty() ? Set.of(from) : Set.of();
        }
        groups++;
        need(groups <= 4);
        int group = groups;
        Tree within = choice(depth);
        return from -> {
            Set<List<Integer>> all = new LinkedHashSet<>();
            for (List<Integer> way : within.ways(from)) {
                List<Integer> spanned = new ArrayList<>(way);
                spanned.set(2 * group - 1, from.get(0));
                spanned.set(2 * group, way.get(0));
                all.add(spanned);
            }
            return all;
        };
    }

    private static Set<List<Integer>> backAt(List<Integer> from, Set<List<Integer>> ways) {
        Set<List<Integer>> back = new LinkedHashSet<>();
        for (List<Integer> way : ways) {
            back.add(moved(way, from.get(0) - way.get(0)));
        }
        return back;
    }

    private Tree behind(int depth) throws NoPattern {
        behinds++;
        Tree within = choice(depth);
        behinds--;
        return from -> {
            Set<List<Integer>> all = new LinkedHashSet<>();
            for (int begin = from.get(0); begin >= 0; begin--) {
                for (List<Integer> way : within.ways(moved(from, begin - from.get(0)))) {
                    if (way.get(0).equals(from.get(0))) {
                        all.add(way);
                    }
                }
            }
            return all;
        };
    }
}
