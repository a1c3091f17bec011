/** The edges of "What it is", of the rows, and of promises 1, 2, 3 and 14; above each test the words it is for. */
public final class RowEdgesTest {
    private static final int[] MOST = {14, 8, 8};
    private static final int[] NO_ROWS = {Integer.MIN_VALUE, Integer.MIN_VALUE + 1, -65536, -256, -2, -1, 3, 4, 256,
        65537, Integer.MAX_VALUE - 1, Integer.MAX_VALUE};
    private static final int[] NO_CHARACTERS = {0, 1, 9, 10, 13, 30, 31, 127, 128, 159, 160, 255, 256, 256 + 32,
        256 + 'a', 65536 - 128, 65534, 65535};
    private static final int CALLS = 512;

    public static void main(String[] args) {
        callsOfRows();
        callsOfCompile();
        callsOfDearSearches("(((a*)*)*)*b", "0-1 0-0 0-0 0-0");
        callsOfDearSearches("(?=((a*)*)*b)b", "0-1 0-0 0-0");
        callsOfReplace();
        callsOfSplit();
        newObject();
        for (int row = 0; row < MOST.length; row++) {
            characters(row);
            most(row);
            clear(row);
            length(row);
        }
        typedCharactersAreTheOnes();
        noSuchRow();
        textEndsTheMatch();
        otherRowsLeaveTheMatch();
        refusedTypeLeavesTheMatch();
        Check.done();
    }

    // "An object is used for at most 512 calls after it has been made": the last of them answers as the first.

    private static void callsOfRows() {
        PatternMatcher x = new PatternMatcher();
        for (int call = 1; call < CALLS; call++) {
            int inTurn = call % 10;
            if (inTurn == 0) {
                Check.due("call " + call + ", clear(1)", x.clear(1), true);
            } else {
                Check.due("call " + call + ", type(1, 'a')", x.type(1, 'a'), inTurn < 9);
            }
        }
        Check.due("call 512, length(1)", x.length(1), 1);
    }

    private static void callsOfCompile() {
        PatternMatcher x = new PatternMatcher();
        Check.fill(x, 0, "((((a)))");
        for (int call = 10; call < CALLS - 1; call++) {
            Check.due("call " + call + ", compile()", x::compile, "IllegalArgumentException");
        }
        x.type(0, ')');
        Check.due("call 512, compile()", x::compile, 4);

        PatternMatcher y = new PatternMatcher();
        Check.fill(y, 0, "((((a))))");
        for (int call = 11; call <= CALLS; call++) {
            Check.due("call " + call + ", compile()", y::compile, 4);
        }
    }

    private static void callsOfDearSearches(String pattern, String spansWithB) {
        PatternMatcher x = Check.with(pattern, "aaaaaaaa");
        String[] spans = spansWithB.split(" ");
        int callsAtEnd = 3 + 2 * (spans.length - 1);
        for (int call = 2 + pattern.length() + 8 + 1; call < CALLS - callsAtEnd; call++) {
            String name = "call " + (call + 1) + " with " + pattern;
            switch (call % 3) {
                case 0:
                    Check.due(name + ", matches()", x.matches(), false);
                    break;
                case 1:
                    Check.due(name + ", looking()", x.looking(), false);
                    break;
                default:
                    Check.due(name + ", find(0)", x.find(0), -1);
            }
        }
        x.clear(1);
        x.type(1, 'b');
        Check.due("matches() of " + pattern + " with b", x.matches(), true);
        for (int group = 1; group < spans.length; group++) {
            Check.due("span of group " + group + ", up to call 512", x.start(group) + "-" + x.end(group), spans[group]);
        }
    }

    private static void callsOfReplace() {
        PatternMatcher x = Check.with("(?=(.*))", "abcdefgh");
        Check.fill(x, 2, "$1$1$1$1");
        int call = 3 + 24 + 1;
        for (; call < CALLS - 1; call++) {
            Check.due("call " + (call + 1) + ", replace()", x.replace(), 152);
        }
        Check.due("call 512, replaced(151)", x.replaced(151), 'h');
    }

    private static void callsOfSplit() {
        PatternMatcher x = Check.with("", "abcdefgh");
        int call = 2 + 8 + 1;
        for (; call < CALLS - 1; call++) {
            Check.due("call " + (call + 1) + ", split()", x.split(), 8);
        }
        Check.due("call 512, piece(7, 1)", x.piece(7, 1), 8);
    }

    // "Empty rows, no pattern compiled, no match."
    private static void newObject() {
        for (int row = 0; row < MOST.length; row++) {
            Check.due("new, length(" + row + ")", new PatternMatcher().length(row), 0);
        }
        String noState = "IllegalStateException";
        String noIndex = "IndexOutOfBoundsException";
        State.kept("new, matches()", PatternMatcher::new, x -> x.matches(), noState);
        State.kept("new, looking()", PatternMatcher::new, x -> x.looking(), noState);
        State.kept("new, find(0)", PatternMatcher::new, x -> x.find(0), noState);
        State.kept("new, replace()", PatternMatcher::new, x -> x.replace(), noState);
        State.kept("new, split()", PatternMatcher::new, x -> x.split(), noState);
        for (int n : new int[] {Integer.MIN_VALUE, -1, 0, 1, Integer.MAX_VALUE}) {
            State.kept("new, start(" + n + ")", PatternMatcher::new, x -> x.start(n), noState);
            State.kept("new, end(" + n + ")", PatternMatcher::new, x -> x.end(n), noState);
            State.kept("new, replaced(" + n + ")", PatternMatcher::new, x -> x.replaced(n), noIndex);
            State.kept("new, piece(" + n + ", 0)", PatternMatcher::new, x -> x.piece(n, 0), noIndex);
            State.kept("new, piece(" + n + ", 1)", PatternMatcher::new, x -> x.piece(n, 1), noIndex);
        }
        PatternMatcher x = new PatternMatcher();
        Check.due("new, compile() of the empty row", x::compile, 0);
        Check.due("matches() of the empty pattern with the empty text", x.matches(), true);
        Check.due("replace() by the empty template", x.replace(), 0);
    }

    // "three rows of characters 32 .. 126"; "refused, if .. it is not 32 .. 126"
    private static void characters(int row) {
        for (int c : NO_CHARACTERS) {
            String what = "type(" + row + ", (char) " + c + ")";
            State.kept(what, State::rich, x -> x.type(row, (char) c), false);
            State.kept("new, " + what, PatternMatcher::new, x -> x.type(row, (char) c), false);
        }
        for (char c = 32; c <= 126; c++) {
            PatternMatcher x = new PatternMatcher();
            Check.due("type(" + row + ", (char) " + (int) c + ")", x.type(row, c), true);
            Check.due("length(" + row + ") after (char) " + (int) c, x.length(row), 1);
        }
    }

    private static void typedCharactersAreTheOnes() {
        for (char c : new char[] {32, 33, 125, 126}) {
            PatternMatcher x = Check.with(".", "" + c);
            Check.fill(x, 2, "$0" + c);
            x.replace();
            Check.due("text and template of (char) " + (int) c, Check.made(x), "" + c + c);
        }
        PatternMatcher x = Check.with(" ~", "! ~~");
        Check.due("find(0) of ' ~' in '! ~~'", x.find(0), 1);
    }

    // "0 the PATTERN, at most 14; 1 the TEXT, at most 8; 2 the TEMPLATE, at most 8"; "refused, if .. the row is full"
    private static void most(int row) {
        PatternMatcher x = new PatternMatcher();
        for (int size = 1; size <= MOST[row]; size++) {
            Check.due("type(" + row + ", ..) as number " + size, x.type(row, (char) ('a' + size)), true);
            Check.due("length(" + row + ") then", x.length(row), size);
        }
        Check.due("type(" + row + ", 'z') into the full row", x.type(row, 'z'), false);
        Check.due("length(" + row + ") then", x.length(row), MOST[row]);
        for (char c : new char[] {31, 32, 'a', 126, 127}) {
            State.kept("type(" + row + ", (char) " + (int) c + ") into the full row", State::full, y -> y.type(row, c),
                false);
        }
    }

    // "A row becomes empty": an empty one too, and a full one, which then takes as many as ever.
    private static void clear(int row) {
        State.Start[] starts = {PatternMatcher::new, State::rich, State::full};
        for (State.Start start : starts) {
            PatternMatcher x = start.make();
            int[] sizes = {x.length(0), x.length(1), x.length(2)};
            Check.due("clear(" + row + ")", x.clear(row), true);
            sizes[row] = 0;
            for (int other = 0; other < MOST.length; other++) {
                Check.due("length(" + other + ") after clear(" + row + ")", x.length(other), sizes[other]);
            }
            Check.due("clear(" + row + ") of the empty row", x.clear(row), true);
            for (int size = 1; size <= MOST[row]; size++) {
                Check.due("type(" + row + ", 'b') after clear", x.type(row, 'b'), true);
            }
            Check.due("type(" + row + ", 'b') after clear into the full row", x.type(row, 'b'), false);
        }
    }

    // "How many characters a row has"
    private static void length(int row) {
        State.kept("length(" + row + ")", State::full, x -> x.length(row), MOST[row]);
        State.kept("length(" + row + ")", PatternMatcher::new, x -> x.length(row), 0);
    }

    // type, clear: "refused, if there is no such row"; length: "-1 if there is no such row"
    private static void noSuchRow() {
        for (int row : NO_ROWS) {
            State.Start[] starts = {PatternMatcher::new, State::rich, State::full};
            for (State.Start start : starts) {
                for (char c : new char[] {31, 32, 'a', 126, 127}) {
                    State.kept("type(" + row + ", (char) " + (int) c + ")", start, x -> x.type(row, c), false);
                }
                State.kept("clear(" + row + ")", start, x -> x.clear(row), false);
                State.kept("length(" + row + ")", start, x -> x.length(row), -1);
            }
        }
    }

    // type, clear: "where it is row 1 there is no match then"
    private static void textEndsTheMatch() {
        PatternMatcher x = State.rich();
        Check.due("type(1, 'b') with a match", x.type(1, 'b'), true);
        Check.due("match after type(1, 'b')", Check.match(x), "-");
        PatternMatcher y = State.rich();
        Check.due("clear(1) with a match", y.clear(1), true);
        Check.due("match after clear(1)", Check.match(y), "-");
        PatternMatcher z = Check.with("", "");
        Check.due("matches() of nothing with nothing", z.matches(), true);
        Check.due("its match", Check.match(z), "0-0");
        Check.due("clear(1) of the empty text with a match", z.clear(1), true);
        Check.due("match after clear(1) of the empty text", Check.match(z), "-");
        Check.due("what replace() made after clear(1)", Check.made(y), "a<b><>a");
        Check.due("pieces after clear(1)", Check.pieces(y), "0-1 2-2 3-4");
    }

    private static void otherRowsLeaveTheMatch() {
        for (int row : new int[] {0, 2}) {
            PatternMatcher x = State.rich();
            x.type(row, 'b');
            Check.due("match after type(" + row + ", 'b')", Check.match(x), "2-3 . 2-3");
            x.clear(row);
            Check.due("match after clear(" + row + ")", Check.match(x), "2-3 . 2-3");
        }
    }

    private static void refusedTypeLeavesTheMatch() {
        PatternMatcher x = State.full();
        Check.due("type(1, 'a') into the full text", x.type(1, 'a'), false);
        Check.due("match after that", Check.match(x), "2-4 2-3 3-4");
        PatternMatcher y = State.rich();
        Check.due("type(1, (char) 127)", y.type(1, (char) 127), false);
        Check.due("match after that", Check.match(y), "2-3 . 2-3");
    }
}
