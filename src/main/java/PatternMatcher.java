/**
 * Matches patterns with groups, choices, loops, looks and back references, always finding the match that comes first
 * in the order in which ways are tried; and replaces and splits by successive matches.
 */
public final class PatternMatcher {
    private static final int PATTERN = 0;
    private static final int TEXT = 1;
    private static final int TEMPLATE = 2;
    private static final int ROWS = 3;

    private static final int MOST_PATTERN = 14;
    private static final int MOST_TEXT = 8;
    private static final int MOST_TEMPLATE = 8;
    private static final int MOST_GROUPS = 4;
    private static final int MOST_BRACKETS = 4;
    // Each successive match moves on by a place at least, and the last may stand behind the last character.
    private static final int MOST_MATCHES = MOST_TEXT + 1;
    // At each match a template stands for at most four groups that have the whole text each.
    private static final int MOST_MADE = MOST_TEXT + MOST_MATCHES * (MOST_TEMPLATE / 2) * MOST_TEXT;

    private static final char NO_CHARACTER = 0;
    private static final char LEAST_CHARACTER = 32;
    private static final char MOST_CHARACTER = 126;
    private static final String SPECIAL = "|()[]{}*+?.^$\\";
    private static final String SPECIAL_ITEM = "[]^-\\";

    // The characters of \d and \w as bits: low for 0 .. 63, high for 64 .. 127.
    private static final long DIGITS_LOW = 0x03FF000000000000L;
    private static final long WORD_HIGH = 0x07FFFFFE87FFFFFEL;

    // The kinds of nodes; 0 is that of a node which has no way.
    private static final int DONE = 1;
    private static final int SET = 2;
    private static final int FIRST_PLACE = 3;
    private static final int LAST_PLACE = 4;
    private static final int EDGE = 5;
    private static final int NO_EDGE = 6;
    private static final int BACK = 7;
    private static final int OPEN = 8;
    private static final int CLOSE = 9;
    private static final int SEQUENCE = 10;
    private static final int JOIN = 11;
    private static final int ENTER = 12;
    private static final int LOOP = 13;
    private static final int LOOK = 14;
    private static final int ATOMIC = 15;

    // Four characters make at most seven nodes, as ()*+ does, and the pattern itself two: 26, and the one that is none.
    private static final int NODES = 32;
    private static final int NO_NODE = 0;
    private static final int NO_MOST = -1;
    private static final int ANYWHERE = -1;

    // A span takes 12 bits: where it begins, where it ends, and where its group was opened and is not yet closed.
    private static final int SPAN_BITS = 12;
    private static final int FROM_SHIFT = 0;
    private static final int TO_SHIFT = 4;
    private static final int OPEN_SHIFT = 8;
    private static final long SPAN_MASK = 0xFFFL;
    private static final int PLACE_MASK = 15;
    private static final int NO_PLACE = 15;
    private static final long NO_SPANS = 0x0FF0FF0FF0FFL;

    // A loop takes 4 bits: how often it has been gone through, and whether the latest time took a character.
    private static final int LOOP_BITS = 4;
    private static final int TIMES_MASK = 7;
    private static final int TOOK = 8;
    private static final int ALL_TOOK = 0x88888;
    private static final int LOOPS_MASK = 0xFFFFF;
    private static final int PLACE_SHIFT = 20;
    private static final int NODE_SHIFT = 24;

    // Summed up over loops, choices and brackets, no pattern of 14 characters lets more than 244 ways wait on a text of
    // 8. The dearest search that was found goes some 25,000 steps.
    private static final int WAITING = 256;
    private static final int STEPS = 10000000;
    private static final int SEEN_BITS = 11;
    private static final int SEEN = 1 << SEEN_BITS;
    private static final int SEEN_TRIES = 8;
    private static final int SEARCH_SHIFT = 32;
    private static final int SEEN_SHIFT = 64 - SEEN_BITS;
    private static final long SEEN_FACTOR = 0x9E3779B97F4A7C15L;
    // Four brackets, a loop that keeps what it took round each and one within: no search stands deeper in others.
    private static final int DEEPEST_SEARCH = 2 * MOST_BRACKETS + 1;
    private static final int DEPTH_BITS = 4;
    private static final int DEPTH_MASK = 15;

    private static final int FIT = 0;
    private static final int UNFIT = 1;
    private static final int UNKNOWN_GROUP = 2;

    private final Search search;
    private final Row text;
    private final Row[] rows;
    private Program spare;
    private boolean compiled;

    private boolean matched;
    private int matchFrom;
    private int matchTo;
    private long matchSpans;

    private final Row made;
    private final int[] pieceFrom;
    private final int[] pieceTo;
    private int pieces;

    public PatternMatcher() {
        search = new Search();
        text = search.text;
        rows = new Row[] {new Row(MOST_PATTERN), text, new Row(MOST_TEMPLATE)};
        spare = new Program();
        made = new Row(MOST_MADE);
        pieceFrom = new int[MOST_MATCHES + 1];
        pieceTo = new int[MOST_MATCHES + 1];
    }

    public boolean type(int row, char c) {
        if (!isRow(row) || c < LEAST_CHARACTER || c > MOST_CHARACTER || !rows[row].add(c)) {
            return false;
        }
        forgetMatchIfText(row);
        return true;
    }

    public boolean clear(int row) {
        if (!isRow(row)) {
            return false;
        }
        rows[row].empty();
        forgetMatchIfText(row);
        return true;
    }

    public int compile() throws IllegalArgumentException {
        // The spare program is written, so that the one in use outlives a row that is no pattern.
        if (!new Reader(rows[PATTERN], spare).readPattern()) {
            throw new IllegalArgumentException();
        }
        Program before = search.program;
        search.program = spare;
        spare = before;
        compiled = true;
        matched = false;
        return search.program.groups;
    }

    public boolean matches() throws IllegalStateException {
        if (!compiled) {
            throw new IllegalStateException();
        }
        return match(0, 0, text.size());
    }

    public boolean looking() throws IllegalStateException {
        if (!compiled) {
            throw new IllegalStateException();
        }
        return match(0, 0, ANYWHERE);
    }

    public int find(int from) throws IndexOutOfBoundsException, IllegalStateException {
        if (from < 0 || from > text.size()) {
            throw new IndexOutOfBoundsException();
        }
        if (!compiled) {
            throw new IllegalStateException();
        }
        return match(from, text.size(), ANYWHERE) ? matchFrom : -1;
    }

    public int start(int group) throws IllegalStateException, IndexOutOfBoundsException {
        if (!matched) {
            throw new IllegalStateException();
        }
        if (!isGroup(group)) {
            throw new IndexOutOfBoundsException();
        }
        return groupFrom(group);
    }

    public int end(int group) throws IllegalStateException, IndexOutOfBoundsException {
        if (!matched) {
            throw new IllegalStateException();
        }
        if (!isGroup(group)) {
            throw new IndexOutOfBoundsException();
        }
        return groupTo(group);
    }

    public int replace() throws IllegalStateException, IllegalArgumentException, IndexOutOfBoundsException {
        if (!compiled) {
            throw new IllegalStateException();
        }
        int fault = templateFault();
        if (fault == UNFIT) {
            throw new IllegalArgumentException();
        }
        if (fault == UNKNOWN_GROUP) {
            throw new IndexOutOfBoundsException();
        }
        made.empty();
        int copied = 0;
        int from = 0;
        for (int i = 0; i < MOST_MATCHES && match(from, text.size(), ANYWHERE); i++) {
            makeFromText(copied, matchFrom);
            makeFromTemplate();
            copied = matchTo;
            from = placeAfterMatch();
        }
        makeFromText(copied, text.size());
        matched = false;
        return made.size();
    }

    public char replaced(int i) throws IndexOutOfBoundsException {
        if (i < 0 || i >= made.size()) {
            throw new IndexOutOfBoundsException();
        }
        return made.at(i);
    }

    public int split() throws IllegalStateException {
        if (!compiled) {
            throw new IllegalStateException();
        }
        pieces = 0;
        int kept = 0;
        int from = 0;
        for (int i = 0; i < MOST_MATCHES && match(from, text.size(), ANYWHERE); i++) {
            if (matchTo > 0) {
                addPiece(kept, matchFrom);
                kept = matchTo;
            }
            from = placeAfterMatch();
        }
        boolean whole = pieces == 0;
        addPiece(kept, text.size());
        if (!whole) {
            dropEmptyPiecesAtEnd();
        }
        matched = false;
        return pieces;
    }

    public int piece(int k, int what) throws IndexOutOfBoundsException {
        if (k < 0 || k >= pieces) {
            throw new IndexOutOfBoundsException();
        }
        if (what == 0) {
            return pieceFrom[k];
        }
        return what == 1 ? pieceTo[k] : -1;
    }

    public int length(int row) {
        return isRow(row) ? rows[row].size() : -1;
    }

    private static boolean isRow(int row) {
        return row >= 0 && row < ROWS;
    }

    private void forgetMatchIfText(int row) {
        if (row == TEXT) {
            matched = false;
        }
    }

    private boolean match(int from, int last, int mustEnd) {
        matched = false;
        search.openSearch(0);
        for (int place = from; place <= last && !matched; place++) {
            matched = search.firstWay(place, mustEnd);
            matchFrom = place;
        }
        matchTo = search.place;
        matchSpans = search.spans;
        return matched;
    }

    private int placeAfterMatch() {
        return matchTo > matchFrom ? matchTo : matchTo + 1;
    }

    private boolean isGroup(int group) {
        return group >= 0 && group <= search.program.groups;
    }

    private int groupFrom(int group) {
        return group == 0 ? matchFrom : spanPlace(matchSpans, group, FROM_SHIFT);
    }

    private int groupTo(int group) {
        return group == 0 ? matchTo : spanPlace(matchSpans, group, TO_SHIFT);
    }

    /** What stands behind a $ or \ without fit comes before a group that is not there, as the document lists them. */
    private int templateFault() {
        Row template = rows[TEMPLATE];
        boolean unknown = false;
        for (int i = 0; i < template.size(); i++) {
            char c = template.at(i);
            if (c == '$' || c == '\\') {
                i++;
                char behind = template.at(i);
                if (behind == NO_CHARACTER || c == '$' && !isDigit(behind)) {
                    return UNFIT;
                }
                unknown = unknown || c == '$' && !isGroup(behind - '0');
            }
        }
        return unknown ? UNKNOWN_GROUP : FIT;
    }

    private void makeFromTemplate() {
        Row template = rows[TEMPLATE];
        for (int i = 0; i < template.size(); i++) {
            char c = template.at(i);
            if (c == '$') {
                i++;
                int group = template.at(i) - '0';
                makeFromText(groupFrom(group), groupTo(group));
            } else {
                if (c == '\\') {
                    i++;
                }
                made.add(template.at(i));
            }
        }
    }

    private void makeFromText(int from, int to) {
        for (int i = from; i < to; i++) {
            made.add(text.at(i));
        }
    }

    private void addPiece(int from, int to) {
        if (pieces < pieceFrom.length && pieces < pieceTo.length) {
            pieceFrom[pieces] = from;
            pieceTo[pieces] = to;
            pieces++;
        }
    }

    private void dropEmptyPiecesAtEnd() {
        while (pieces > 0 && pieceFrom[pieces - 1] == pieceTo[pieces - 1]) {
            pieces--;
        }
    }

    private static boolean isDigit(char c) {
        return c >= '0' && c <= '9';
    }

    private static boolean isIn(char c, long low, long high) {
        long bits = c < 64 ? low : high;
        return c < 128 && (bits >>> (c & 63) & 1) != 0;
    }

    private static int spanPlace(long spans, int group, int shift) {
        int place = (int) (spans >>> (group - 1) * SPAN_BITS + shift) & PLACE_MASK;
        return place == NO_PLACE ? -1 : place;
    }

    private static long spanOpened(long spans, int group, int place) {
        int shift = (group - 1) * SPAN_BITS + OPEN_SHIFT;
        return spans & ~((long) PLACE_MASK << shift) | (long) place << shift;
    }

    private static long spanClosed(long spans, int group, int place) {
        int shift = (group - 1) * SPAN_BITS;
        long span = (long) place << TO_SHIFT | spanPlace(spans, group, OPEN_SHIFT);
        return spans & ~(SPAN_MASK << shift) | span << shift;
    }

    /** Characters in a row that has a most. */
    private static final class Row {
        private final char[] characters;
        private int count;

        Row(int most) {
            characters = new char[most];
        }

        boolean add(char c) {
            if (count >= characters.length) {
                return false;
            }
            characters[count] = c;
            count++;
            return true;
        }

        void empty() {
            count = 0;
        }

        int size() {
            return count;
        }

        char at(int i) {
            return i < 0 || i >= count ? NO_CHARACTER : characters[i];
        }
    }

    /** One step of a pattern; what the fields say depends on its kind. */
    private static final class Node {
        private final int number;
        private int kind;
        private int next;
        // The sequence to try after this one, or what stands within a loop, a look or an atomic bracket.
        private int other;
        private int group;
        private int slot;
        private int least;
        private int most;
        private boolean lazy;
        private boolean behind;
        private boolean negative;
        private long low;
        private long high;

        Node(int number) {
            this.number = number;
        }
    }

    /** The nodes of a pattern, linked by their numbers; number 0 is no node, and has no way. */
    private static final class Program {
        private final Node[] nodes;
        private int count;
        private int first;
        private int groups;
        // The spans that a back reference asks for: others can't make a way fail.
        private long asked;

        Program() {
            nodes = new Node[NODES];
            for (int i = 0; i < NODES; i++) {
                nodes[i] = new Node(i);
            }
            count = 1;
        }

        void restart() {
            count = 1;
            first = NO_NODE;
            groups = 0;
            asked = 0;
        }

        int add(int kind) {
            if (count >= nodes.length) {
                return NO_NODE;
            }
            Node added = nodes[count];
            added.kind = kind;
            added.next = NO_NODE;
            added.other = NO_NODE;
            count++;
            return added.number;
        }

        Node node(int number) {
            return nodes[number < 0 || number >= count ? NO_NODE : number];
        }
    }

    /** Reads a row as a pattern and writes its program. */
    private static final class Reader {
        private final Row row;
        private final Program program;
        private int at;
        private boolean bad;
        private int behinds;
        // The node of the latest atom or piece from which it goes on to what follows.
        private int tail;
        private long low;
        private long high;
        private int least;
        private int most;

        Reader(Row row, Program program) {
            this.row = row;
            this.program = program;
        }

        boolean readPattern() {
            program.restart();
            program.first = choice(add(DONE), 0);
            return !bad && at == row.size();
        }

        private int choice(int exit, int depth) {
            int head = sequence(exit, depth);
            int last = head;
            for (int i = 0; i < MOST_PATTERN && !bad && row.at(at) == '|'; i++) {
                at++;
                int next = sequence(exit, depth);
                program.node(last).other = next;
                last = next;
            }
            return head;
        }

        private int sequence(int exit, int depth) {
            int head = add(SEQUENCE);
            int last = head;
            for (int i = 0; i < MOST_PATTERN && !bad && !isSequenceOver(); i++) {
                program.node(last).next = onePiece(depth);
                last = tail;
            }
            program.node(last).next = exit;
            return head;
        }

        private boolean isSequenceOver() {
            return at >= row.size() || row.at(at) == '|' || row.at(at) == ')';
        }

        private int onePiece(int depth) {
            int head = atom(depth);
            if (bad || !readLoop()) {
                return head;
            }
            int loop = add(LOOP);
            Node node = program.node(loop);
            node.other = head;
            node.slot = depth;
            node.least = least;
            node.most = most;
            node.lazy = take('?');
            program.node(tail).next = loop;
            int enter = add(ENTER);
            program.node(enter).slot = depth;
            program.node(enter).next = loop;
            tail = loop;
            if (!node.lazy && take('+')) {
                node.next = add(DONE);
                return withBody(ATOMIC, enter);
            }
            return enter;
        }

        /** Whether a loop stands here; its least and most are then read. */
        private boolean readLoop() {
            char c = row.at(at);
            if (c != '?' && c != '*' && c != '+' && c != '{') {
                return false;
            }
            at++;
            least = c == '+' ? 1 : 0;
            most = c == '?' ? 1 : NO_MOST;
            if (c == '{') {
                readCounts();
            }
            if (most == NO_MOST ? behinds > 0 : most < least) {
                bad = true;
            }
            return true;
        }

        private void readCounts() {
            least = count();
            most = least;
            if (take(',')) {
                most = row.at(at) == '}' ? NO_MOST : count();
            }
            expect('}');
        }

        private int count() {
            char c = row.at(at);
            at++;
            if (c < '0' || c > '4') {
                bad = true;
            }
            return c - '0';
        }

        private int atom(int depth) {
            char c = row.at(at);
            at++;
            switch (c) {
                case '(':
                    return bracket(depth + 1);
                case '[':
                    return items();
                case '\\':
                    return escaped();
                case '.':
                    return set(-1L, -1L);
                case '^':
                    return single(FIRST_PLACE);
                case '$':
                    return single(LAST_PLACE);
                default:
                    return SPECIAL.indexOf(c) >= 0 ? refuse() : character(c);
            }
        }

        private int escaped() {
            char c = row.at(at);
            at++;
            switch (c) {
                case 'd':
                    return set(DIGITS_LOW, 0);
                case 'w':
                    return set(DIGITS_LOW, WORD_HIGH);
                case 'b':
                    return single(EDGE);
                case 'B':
                    return single(NO_EDGE);
                case '1':
                case '2':
                case '3':
                case '4':
                    return backReference(c - '0');
                default:
                    return c == '-' || SPECIAL.indexOf(c) >= 0 ? character(c) : refuse();
            }
        }

        private int backReference(int group) {
            if (group > program.groups || behinds > 0) {
                return refuse();
            }
            program.asked |= SPAN_MASK << (group - 1) * SPAN_BITS;
            int head = single(BACK);
            program.node(head).group = group;
            return head;
        }

        private int items() {
            boolean none = take('^');
            low = 0;
            high = 0;
            item();
            for (int i = 0; i < MOST_PATTERN && !bad && row.at(at) != ']'; i++) {
                item();
            }
            expect(']');
            return none ? set(~low, ~high) : set(low, high);
        }

        private void item() {
            char from = row.at(at);
            at++;
            if (from == '\\') {
                escapedItem();
                return;
            }
            char to = from;
            if (take('-')) {
                to = row.at(at);
                at++;
            }
            if (!isItem(from) || !isItem(to) || to < from) {
                bad = true;
                return;
            }
            for (int c = from; c <= to; c++) {
                addItem(c);
            }
        }

        private void escapedItem() {
            char c = row.at(at);
            at++;
            if (c == 'd' || c == 'w') {
                low |= DIGITS_LOW;
                high |= c == 'w' ? WORD_HIGH : 0;
            } else if (SPECIAL_ITEM.indexOf(c) >= 0) {
                addItem(c);
            } else {
                bad = true;
            }
        }

        private static boolean isItem(char c) {
            return c != NO_CHARACTER && SPECIAL_ITEM.indexOf(c) < 0;
        }

        private void addItem(int c) {
            if (c < 64) {
                low |= 1L << c;
            } else {
                high |= 1L << (c - 64);
            }
        }

        private int bracket(int depth) {
            if (depth > MOST_BRACKETS) {
                return refuse();
            }
            if (!take('?')) {
                return group(depth);
            }
            if (take(':')) {
                return together(depth);
            }
            if (take('>')) {
                return withBody(ATOMIC, closedChoice(add(DONE), depth));
            }
            return look(depth);
        }

        private int group(int depth) {
            if (program.groups >= MOST_GROUPS) {
                return refuse();
            }
            program.groups++;
            int open = add(OPEN);
            int close = add(CLOSE);
            program.node(open).group = program.groups;
            program.node(close).group = program.groups;
            program.node(open).next = closedChoice(close, depth);
            tail = close;
            return open;
        }

        private int together(int depth) {
            int join = add(JOIN);
            int head = closedChoice(join, depth);
            tail = join;
            return head;
        }

        private int look(int depth) {
            boolean behind = take('<');
            boolean negative = take('!');
            if (!negative) {
                expect('=');
            }
            if (bad) {
                return refuse();
            }
            behinds += behind ? 1 : 0;
            int look = withBody(LOOK, closedChoice(add(DONE), depth));
            behinds -= behind ? 1 : 0;
            program.node(look).behind = behind;
            program.node(look).negative = negative;
            return look;
        }

        private int closedChoice(int exit, int depth) {
            int head = choice(exit, depth);
            expect(')');
            return head;
        }

        private int withBody(int kind, int body) {
            int head = single(kind);
            program.node(head).other = body;
            return head;
        }

        private int character(char c) {
            low = 0;
            high = 0;
            addItem(c);
            return set(low, high);
        }

        private int set(long inLow, long inHigh) {
            tail = add(SET);
            program.node(tail).low = inLow;
            program.node(tail).high = inHigh;
            return tail;
        }

        private int single(int kind) {
            tail = add(kind);
            return tail;
        }

        private int add(int kind) {
            int node = program.add(kind);
            if (node == NO_NODE) {
                bad = true;
            }
            return node;
        }

        private boolean take(char c) {
            boolean there = row.at(at) == c;
            at += there ? 1 : 0;
            return there;
        }

        private void expect(char c) {
            if (!take(c)) {
                bad = true;
            }
        }

        private int refuse() {
            bad = true;
            tail = NO_NODE;
            return NO_NODE;
        }
    }

    /** Tries the ways of a program in their order; those that are not yet tried wait, the latest on top. */
    private static final class Search {
        private final int[] waitingAt;
        private final long[] waitingSpans;
        private int waiting;

        // In which search and where loops have been in vain. What finds no room is only tried again.
        private final long[] seenWhere;
        private final long[] seenSpans;
        // The searches that stand within one another now, from the outermost on.
        private final int[] open;
        private int searches;

        private final Row text;
        private Program program;
        private int node;
        private int place;
        private int loops;
        private long spans;

        Search() {
            text = new Row(MOST_TEXT);
            program = new Program();
            waitingAt = new int[WAITING];
            waitingSpans = new long[WAITING];
            seenWhere = new long[SEEN];
            seenSpans = new long[SEEN];
            open = new int[DEEPEST_SEARCH + 1];
        }

        /** What was in vain in a search before is no longer known: the text or the end may be another. */
        void openSearch(int depth) {
            if (depth < open.length) {
                searches++;
                open[depth] = searches << DEPTH_BITS | depth;
            }
        }

        /** Whether there is a way from a place; its end and spans are then in place and spans. */
        boolean firstWay(int from, int mustEnd) {
            waiting = 0;
            place = from;
            spans = NO_SPANS;
            return run(program.first, mustEnd, 0);
        }

        private boolean run(int body, int mustEnd, int depth) {
            if (depth >= open.length) {
                return false;
            }
            int base = waiting;
            node = body;
            loops = 0;
            boolean alive = true;
            for (int i = 0; i < STEPS && (alive || waiting > base); i++) {
                if (!alive) {
                    takeWaiting();
                }
                Node here = program.node(node);
                if (here.kind != DONE) {
                    alive = step(here, depth);
                } else if (mustEnd == ANYWHERE || mustEnd == place) {
                    waiting = base;
                    return true;
                } else {
                    alive = false;
                }
            }
            waiting = base;
            return false;
        }

        private boolean step(Node here, int depth) {
            node = here.next;
            switch (here.kind) {
                case SET:
                    return takeCharacter(here);
                case FIRST_PLACE:
                    return place == 0;
                case LAST_PLACE:
                    return place == text.size();
                case EDGE:
                    return isEdge();
                case NO_EDGE:
                    return !isEdge();
                case BACK:
                    return takeSpanAgain(here.group);
                case OPEN:
                    spans = spanOpened(spans, here.group, place);
                    return true;
                case CLOSE:
                    spans = spanClosed(spans, here.group, place);
                    return true;
                case SEQUENCE:
                    return here.other == NO_NODE || letWait(here.other, loops);
                case JOIN:
                    return true;
                case ENTER:
                    // No latest time stands in the way of going on.
                    loops = withLoop(here.slot, TOOK);
                    return true;
                case LOOP:
                    return !wasHere(here, depth) && loop(here);
                case LOOK:
                    return look(here, depth);
                case ATOMIC:
                    return atomic(here, depth);
                default:
                    return false;
            }
        }

        private boolean takeCharacter(Node here) {
            if (place >= text.size() || !isIn(text.at(place), here.low, here.high)) {
                return false;
            }
            moveTo(place + 1);
            return true;
        }

        private boolean takeSpanAgain(int group) {
            int from = spanPlace(spans, group, FROM_SHIFT);
            int size = spanPlace(spans, group, TO_SHIFT) - from;
            if (from < 0 || place + size > text.size()) {
                return false;
            }
            for (int i = 0; i < size; i++) {
                if (text.at(from + i) != text.at(place + i)) {
                    return false;
                }
            }
            moveTo(place + size);
            return true;
        }

        private void moveTo(int newPlace) {
            if (newPlace > place) {
                loops |= ALL_TOOK;
            }
            place = newPlace;
        }

        private boolean isEdge() {
            return isWord(text.at(place - 1)) != isWord(text.at(place));
        }

        private static boolean isWord(char c) {
            return isIn(c, DIGITS_LOW, WORD_HIGH);
        }

        private boolean loop(Node here) {
            int state = loops >>> here.slot * LOOP_BITS;
            int times = state & TIMES_MASK;
            boolean took = (state & TOOK) != 0;
            // Where there is no most, only that the least is reached has to be known.
            int timesOn = here.most == NO_MOST && times >= here.least ? times : times + 1;
            int loopsOn = withLoop(here.slot, timesOn);
            if (times < here.least) {
                return goTo(here.other, loopsOn);
            }
            if (!took || times == here.most) {
                return goTo(here.next, loops);
            }
            if (here.lazy) {
                return letWait(here.other, loopsOn) && goTo(here.next, loops);
            }
            return letWait(here.next, loops) && goTo(here.other, loopsOn);
        }

        private int withLoop(int slot, int state) {
            int shift = slot * LOOP_BITS;
            return loops & ~((TOOK | TIMES_MASK) << shift) | state << shift;
        }

        private boolean goTo(int newNode, int newLoops) {
            node = newNode;
            loops = newLoops;
            return true;
        }

        private boolean letWait(int atNode, int withLoops) {
            if (waiting >= WAITING) {
                return false;
            }
            waitingAt[waiting] = packed(atNode, withLoops);
            waitingSpans[waiting] = spans;
            waiting++;
            return true;
        }

        private void takeWaiting() {
            waiting--;
            int at = waitingAt[waiting];
            node = at >>> NODE_SHIFT;
            place = at >>> PLACE_SHIFT & PLACE_MASK;
            loops = at & LOOPS_MASK;
            spans = waitingSpans[waiting];
        }

        /**
         * A way that comes to a loop just as one before it fails as that did: without this, loops within loops would
         * be tried in more ways than can be gone through.
         */
        private boolean wasHere(Node here, int depth) {
            int loopsAround = loops & (1 << (here.slot + 1) * LOOP_BITS) - 1;
            long where = (long) open[depth] << SEARCH_SHIFT | packed(here.number, loopsAround);
            long asked = spans & program.asked;
            int first = (int) ((asked * 31 + where) * SEEN_FACTOR >>> SEEN_SHIFT);
            int free = first;
            for (int k = SEEN_TRIES - 1; k >= 0; k--) {
                int i = first + k & SEEN - 1;
                if (seenWhere[i] == where && seenSpans[i] == asked) {
                    return true;
                }
                if (isOver((int) (seenWhere[i] >>> SEARCH_SHIFT), depth)) {
                    free = i;
                }
            }
            seenWhere[free] = where;
            seenSpans[free] = asked;
            return false;
        }

        private boolean isOver(int search, int depth) {
            int itsDepth = search & DEPTH_MASK;
            return itsDepth > depth || open[itsDepth] != search;
        }

        private int packed(int atNode, int withLoops) {
            return atNode << NODE_SHIFT | place << PLACE_SHIFT | withLoops;
        }

        private boolean look(Node here, int depth) {
            int placeBefore = place;
            int loopsBefore = loops;
            long spansBefore = spans;
            openSearch(depth + 1);
            boolean found = here.behind ? lookBehind(here.other, depth + 1) : run(here.other, ANYWHERE, depth + 1);
            node = here.next;
            place = placeBefore;
            loops = loopsBefore;
            if (here.negative) {
                spans = spansBefore;
            }
            return found != here.negative;
        }

        private boolean lookBehind(int body, int depth) {
            int here = place;
            long spansBefore = spans;
            for (int from = here; from >= 0; from--) {
                place = from;
                spans = spansBefore;
                if (run(body, here, depth)) {
                    return true;
                }
            }
            return false;
        }

        private boolean atomic(Node here, int depth) {
            int placeBefore = place;
            int loopsBefore = loops;
            openSearch(depth + 1);
            boolean found = run(here.other, ANYWHERE, depth + 1);
            int placeBehind = place;
            node = here.next;
            place = placeBefore;
            loops = loopsBefore;
            moveTo(placeBehind);
            return found;
        }
    }
}
