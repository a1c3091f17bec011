/** Promises 1, 2, 3 and 14: a new object, type, clear and length. */
public final class RowsTest {
    private static final int[] MOST = {14, 8, 8};

    public static void main(String[] args) {
        newObject();
        newObjectsAreApart();
        for (int row = 0; row < 3; row++) {
            fullRow(row);
        }
        characters();
        noSuchRow();
        rowsAreApart();
        Check.done();
    }

    private static void newObject() {
        PatternMatcher x = new PatternMatcher();
        for (int row = 0; row < 3; row++) {
            Check.due("new, length(" + row + ")", x.length(row), 0);
        }
        Check.due("new, matches()", x::matches, "IllegalStateException");
        Check.due("new, looking()", x::looking, "IllegalStateException");
        Check.due("new, find(0)", () -> x.find(0), "IllegalStateException");
        Check.due("new, replace()", x::replace, "IllegalStateException");
        Check.due("new, split()", x::split, "IllegalStateException");
        Check.due("new, start(0)", () -> x.start(0), "IllegalStateException");
        Check.due("new, end(0)", () -> x.end(0), "IllegalStateException");
        Check.due("new, start(9)", () -> x.start(9), "IllegalStateException");
        Check.due("new, end(-1)", () -> x.end(-1), "IllegalStateException");
        Check.due("new, replaced(0)", () -> x.replaced(0), "IndexOutOfBoundsException");
        Check.due("new, piece(0, 0)", () -> x.piece(0, 0), "IndexOutOfBoundsException");
        Check.due("new, compile()", x::compile, 0);
    }

    private static void newObjectsAreApart() {
        PatternMatcher x = Check.with("(a)", "a");
        PatternMatcher y = new PatternMatcher();
        x.matches();
        Check.due("another object's length(0)", y.length(0), 0);
        Check.due("another object's matches()", y::matches, "IllegalStateException");
        Check.due("start(1) beside another object", () -> x.start(1), 0);
    }

    private static void fullRow(int row) {
        PatternMatcher x = new PatternMatcher();
        for (int i = 0; i < MOST[row]; i++) {
            Check.due("type(" + row + ", 'a') as number " + i, x.type(row, 'a'), true);
            Check.due("length(" + row + ")", x.length(row), i + 1);
        }
        Check.due("type into full row " + row, x.type(row, 'a'), false);
        Check.due("length of full row " + row, x.length(row), MOST[row]);
        Check.due("clear(" + row + ")", x.clear(row), true);
        Check.due("length of row " + row + " cleared", x.length(row), 0);
        Check.due("clear(" + row + ") again", x.clear(row), true);
        Check.due("type into row " + row + " cleared", x.type(row, 'a'), true);
        Check.due("length of row " + row + " typed into", x.length(row), 1);
    }

    private static void characters() {
        for (int c = 0; c <= 300; c++) {
            PatternMatcher x = new PatternMatcher();
            boolean fit = c >= 32 && c <= 126;
            for (int row = 0; row < 3; row++) {
                Check.due("type(" + row + ", (char) " + c + ")", x.type(row, (char) c), fit);
                Check.due("length(" + row + ") after (char) " + c, x.length(row), fit ? 1 : 0);
            }
        }
        Check.due("type(1, (char) 65535)", new PatternMatcher().type(1, (char) 65535), false);
        Check.due("type(1, (char) 65601)", new PatternMatcher().type(1, (char) (256 + 'a')), false);
    }

    private static void noSuchRow() {
        PatternMatcher x = Check.with("a", "a");
        x.matches();
        for (int row : new int[] {-1, 3, 4, Integer.MIN_VALUE, Integer.MAX_VALUE}) {
            Check.due("type(" + row + ", 'a')", x.type(row, 'a'), false);
            Check.due("clear(" + row + ")", x.clear(row), false);
            Check.due("length(" + row + ")", x.length(row), -1);
        }
        Check.due("start(0) after rows that are not there", () -> x.start(0), 0);
    }

    private static void rowsAreApart() {
        PatternMatcher x = new PatternMatcher();
        Check.fill(x, 0, "abc");
        Check.fill(x, 1, "de");
        Check.fill(x, 2, "f");
        Check.due("length(0)", x.length(0), 3);
        Check.due("length(1)", x.length(1), 2);
        Check.due("length(2)", x.length(2), 1);
        x.clear(1);
        Check.due("length(0) after clear(1)", x.length(0), 3);
        Check.due("length(1) after clear(1)", x.length(1), 0);
        Check.due("length(2) after clear(1)", x.length(2), 1);
    }
}
