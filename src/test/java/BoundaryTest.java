import java.util.function.ToIntFunction;

/** A test of its own for each sentence of the document that names a boundary case; the sentence stands where the test is called. */
public final class BoundaryTest {
    private static final int BAD = TwoDimMatcher.BAD;
    private static final int NONE = TwoDimMatcher.NONE;
    private static final int LOW = Integer.MIN_VALUE;
    private static final int HIGH = Integer.MAX_VALUE;
    private static final int CALLS = 512;

    /** Numbers at and beyond each bound; 2^8, 2^16, 2^28, 2^30 and the outermost ones wrap around in a careless sum, product or cast. */
    private static final int[] NUMBERS = {LOW, LOW + 1, LOW + 16, -(1 << 30), -(1 << 28), -65536, -256, -17, -16, -4, -3, -2, -1, 0, 1, 2, 3, 4, 5,
        6, 7, 11, 12, 13, 15, 16, 17, 32, 255, 256, 257, 65536, 65537, 1 << 28, (1 << 28) + 1, 1 << 30, HIGH - 16, HIGH - 3, HIGH - 2, HIGH - 1,
        HIGH};
    private static final int[] NOT_A_PATTERN = {LOW, -(1 << 28), -256, -1, 3, 4, 256, 65536, 1 << 28, 1 << 30, HIGH};
    private static final int[] NOT_A_LETTER = {LOW, -256, -1, 3, 4, 256, 65536, HIGH};
    private static final int[] NOT_A_PATTERN_SIDE = {LOW, LOW + 1, -256, -1, 0, 5, 6, 16, 257, 65537, HIGH};
    private static final int[][] SIZES = {{4, 4}, {12, 12}, {4, 12}, {12, 4}, {5, 7}};

    private static String sentence = "";
    private static int wrong = 0;
    private static int tests = 0;

    // ---- how answers are compared ----

    private static void due(String what, int got, int want) {
        if (got != want) {
            wrong++;
            System.out.println(sentence + "\n    " + what + " answered " + got + ", due is " + want);
        }
    }

    private static void due(String what, boolean got, boolean want) {
        if (got != want) {
            wrong++;
            System.out.println(sentence + "\n    " + what + " answered " + got + ", due is " + want);
        }
    }

    private static void due(String what, String got, String want) {
        if (!got.equals(want)) {
            wrong++;
            System.out.println(sentence + "\n    " + what + " left\n" + got + "    due is\n" + want);
        }
    }

    private static String call(String name, int... arguments) {
        StringBuilder told = new StringBuilder(name).append('(');
        for (int k = 0; k < arguments.length; k++) {
            told.append(k == 0 ? "" : ", ").append(arguments[k]);
        }
        return told.append(')').toString();
    }

    // ---- texts and patterns ----

    private static void fill(TwoDimMatcher m, int width, int height, int letter) {
        for (int y = 0; y < height; y++) {
            for (int x = 0; x < width; x++) {
                m.write(x, y, letter);
            }
        }
    }

    private static TwoDimMatcher text(String... rows) {
        TwoDimMatcher m = new TwoDimMatcher(rows[0].length(), rows.length);
        for (int y = 0; y < rows.length; y++) {
            for (int x = 0; x < rows[y].length(); x++) {
                due(call("write", x, y), m.write(x, y, rows[y].charAt(x) - '0'), true);
            }
        }
        return m;
    }

    private static void pattern(TwoDimMatcher m, int p, String... rows) {
        due(call("shape", p, rows[0].length(), rows.length), m.shape(p, rows[0].length(), rows.length), true);
        for (int i = 0; i < rows.length; i++) {
            for (int j = 0; j < rows[i].length(); j++) {
                due(call("paint", p, j, i), m.paint(p, j, i, rows[i].charAt(j) - '0'), true);
            }
        }
    }

    private static String textOf(TwoDimMatcher m, int width, int height) {
        StringBuilder seen = new StringBuilder();
        for (int y = 0; y < height; y++) {
            for (int x = 0; x < width; x++) {
                seen.append(m.letter(x, y));
            }
            seen.append('\n');
        }
        return seen.toString();
    }

    private static String lines(String... rows) {
        return String.join("\n", rows) + "\n";
    }

    /** The size and the letters of a pattern, seen by stamping it on two different grounds; the text is lost. */
    private static String patternOf(TwoDimMatcher m, int p) {
        fill(m, 4, 4, 0);
        m.stamp(p, 0, 0);
        String onZeros = textOf(m, 4, 4);
        fill(m, 4, 4, 1);
        m.stamp(p, 0, 0);
        String onOnes = textOf(m, 4, 4);
        StringBuilder seen = new StringBuilder();
        for (int k = 0; k < onZeros.length(); k++) {
            seen.append(onZeros.charAt(k) == onOnes.charAt(k) ? onZeros.charAt(k) : '.');
        }
        return seen.toString();
    }

    private static final int SAMPLE_WIDTH = 5;
    private static final int SAMPLE_HEIGHT = 6;
    private static final int[] SAMPLE_COLUMNS = {3, 2, 1};
    private static final int[] SAMPLE_ROWS = {2, 3, 1};

    /** All three patterns have different sizes, and none of them is as in a new object. */
    private static TwoDimMatcher sample() {
        TwoDimMatcher m = text("01201", "12012", "20120", "01201", "12012", "20121");
        pattern(m, 0, "012", "120");
        pattern(m, 1, "20", "01", "12");
        pattern(m, 2, "2");
        return m;
    }

    /** Everything that can be seen of an object; the object is of no use after it. */
    private static String allThatIsSeen(TwoDimMatcher m) {
        StringBuilder seen = new StringBuilder(textOf(m, SAMPLE_WIDTH + 1, SAMPLE_HEIGHT + 1));
        seen.append("covered ").append(m.covered()).append('\n');
        for (int p = 0; p < 3; p++) {
            seen.append(m.occurrences(p)).append(' ').append(m.next(p, 0)).append(' ').append(m.overlaps(p)).append('\n');
        }
        for (int p = 0; p < 3; p++) {
            seen.append(patternOf(m, p));
        }
        return seen.toString();
    }

    /** The call is made alone on a fresh sample, so that one refused call cannot hide what another one changed. */
    private static void refused(String what, int answer, ToIntFunction<TwoDimMatcher> made) {
        TwoDimMatcher m = sample();
        due(what, made.applyAsInt(m), answer);
        due(what, allThatIsSeen(m), allThatIsSeen(sample()));
    }

    private static int number(boolean answer) {
        return answer ? 1 : 0;
    }

    private static boolean within(int value, int least, int greatest) {
        return value >= least && value <= greatest;
    }

    private static boolean inSample(int x, int y) {
        return within(x, 0, SAMPLE_WIDTH - 1) && within(y, 0, SAMPLE_HEIGHT - 1);
    }

    private static boolean whollyInSample(int p, int x, int y) {
        return within(x, 0, SAMPLE_WIDTH - SAMPLE_COLUMNS[p]) && within(y, 0, SAMPLE_HEIGHT - SAMPLE_ROWS[p]);
    }

    // ---- What it is ----

    private static void allOf512CallsAnswerAsDue() {
        TwoDimMatcher edited = new TwoDimMatcher(12, 12);
        for (int k = 1; k < CALLS; k++) {
            due("write as call " + k, edited.write(k % 12, k / 12 % 12, k % 3), true);
        }
        due("letter as call 512", edited.letter(511 % 12, 511 / 12 % 12), 511 % 3);
        TwoDimMatcher asked = new TwoDimMatcher(4, 4);
        asked.shape(0, 4, 4);
        for (int k = 2; k <= CALLS; k++) {
            due("covered as call " + k, asked.covered(), 16);
        }
        TwoDimMatcher refusing = new TwoDimMatcher(4, 4);
        for (int k = 1; k < CALLS; k++) {
            due("refused write as call " + k, refusing.write(4, 4, 1), false);
        }
        due("write as call 512", refusing.write(3, 3, 1), true);
        TwoDimMatcher shaped = new TwoDimMatcher(4, 4);
        for (int k = 1; k < CALLS; k++) {
            due("shape as call " + k, shaped.shape(k % 3, 1 + k % 4, 1 + k / 4 % 4), true);
        }
        due("occurrences as call 512", shaped.occurrences(511 % 3), (5 - (1 + 511 % 4)) * (5 - (1 + 511 / 4 % 4)));
    }

    // ---- Terms ----

    private static void lettersAreFrom0To2() {
        for (int letter : NUMBERS) {
            TwoDimMatcher m = new TwoDimMatcher(4, 4);
            due(call("write", 3, 3, letter), m.write(3, 3, letter), within(letter, 0, 2));
            due("letter after " + call("write", 3, 3, letter), m.letter(3, 3), within(letter, 0, 2) ? letter : 0);
            due(call("paint", 2, 0, 0, letter), m.paint(2, 0, 0, letter), within(letter, 0, 2));
            m.stamp(2, 0, 0);
            due("stamped after " + call("paint", 2, 0, 0, letter), m.letter(0, 0), within(letter, 0, 2) ? letter : 1);
        }
    }

    private static void rowsAndColumnsBeginAt0() {
        for (int[] size : SIZES) {
            int width = size[0];
            int height = size[1];
            TwoDimMatcher m = new TwoDimMatcher(width, height);
            due("the first place", m.letter(0, 0), 0);
            due("the last place of the top row", m.letter(width - 1, 0), 0);
            due("the first place of the last row", m.letter(0, height - 1), 0);
            due("the last place", m.letter(width - 1, height - 1), 0);
            due("left of column 0", m.letter(-1, 0), BAD);
            due("above row 0", m.letter(0, -1), BAD);
            due("right of the last column", m.letter(width, 0), BAD);
            due("below the last row", m.letter(0, height), BAD);
            m.write(width - 1, 0, 2);
            due("a write at the top right leaves the row below", m.letter(0, 1), 0);
            m.write(0, height - 1, 1);
            due("a write at the lower left leaves the row above", m.letter(width - 1, height - 2), 0);
        }
    }

    private static void numberOfAPlaceIs16TimesItsRowPlusItsColumn() {
        for (int[] size : SIZES) {
            TwoDimMatcher m = new TwoDimMatcher(size[0], size[1]);
            for (int y = 0; y < size[1]; y++) {
                for (int x = 0; x < size[0]; x++) {
                    m.write(x, y, 1);
                    due("the number of row " + y + ", column " + x, m.next(0, LOW), 16 * y + x);
                    m.write(x, y, 0);
                }
            }
        }
    }

    private static void everyPatternMayHaveEverySize() {
        for (int columns = 1; columns <= 4; columns++) {
            for (int rows = 1; rows <= 4; rows++) {
                for (int p = 0; p < 3; p++) {
                    TwoDimMatcher m = new TwoDimMatcher(12, 12);
                    due(call("shape", p, columns, rows), m.shape(p, columns, rows), true);
                    due("the last row and column painted", m.paint(p, columns - 1, rows - 1, 2), true);
                    due("beyond the last column painted", m.paint(p, columns, rows - 1, 2), false);
                    due("beyond the last row painted", m.paint(p, columns - 1, rows, 2), false);
                    due("stamped into the last corner", m.stamp(p, 12 - columns, 12 - rows), true);
                    due("the last corner", m.letter(11, 11), 2);
                    due("occurrences", m.occurrences(p), 1);
                }
            }
        }
    }

    private static void patternsMayHaveDifferentSizes() {
        TwoDimMatcher m = new TwoDimMatcher(4, 4);
        pattern(m, 0, "1212", "2121", "1212", "2121");
        pattern(m, 1, "2", "1", "2", "1");
        pattern(m, 2, "2010");
        String great = lines("1212", "2121", "1212", "2121");
        String high = lines("2...", "1...", "2...", "1...");
        String broad = lines("2010", "....", "....", "....");
        due("pattern 1", patternOf(m, 1), high);
        due("pattern 0", patternOf(m, 0), great);
        due("pattern 2", patternOf(m, 2), broad);
        m.shape(0, 1, 1);
        due("pattern 1 when pattern 0 is small", patternOf(m, 1), high);
        due("pattern 2 when pattern 0 is small", patternOf(m, 2), broad);
        due("pattern 0 when it is small", patternOf(m, 0), lines("0...", "....", "....", "...."));
    }

    private static void anOccurrenceIsWhollyInTheText() {
        for (int[] size : SIZES) {
            for (int columns = 1; columns <= 4; columns++) {
                for (int rows = 1; rows <= 4; rows++) {
                    TwoDimMatcher m = new TwoDimMatcher(size[0], size[1]);
                    m.shape(1, columns, rows);
                    int lastX = size[0] - columns;
                    int lastY = size[1] - rows;
                    String of = columns + " by " + rows + " zeros in " + size[0] + " by " + size[1] + ": ";
                    due(of + "at the first place", m.occurs(1, 0, 0), true);
                    due(of + "in the lower right corner", m.occurs(1, lastX, lastY), true);
                    due(of + "over the right edge", m.occurs(1, lastX + 1, lastY), false);
                    due(of + "over the lower edge", m.occurs(1, lastX, lastY + 1), false);
                    due(of + "over the left edge", m.occurs(1, -1, 0), false);
                    due(of + "over the upper edge", m.occurs(1, 0, -1), false);
                    due(of + "counted", m.occurrences(1), (lastX + 1) * (lastY + 1));
                    due(of + "the first", m.next(1, 0), 0);
                    due(of + "the last", m.next(1, 16 * lastY + lastX), 16 * lastY + lastX);
                    due(of + "after the last", m.next(1, 16 * lastY + lastX + 1), NONE);
                }
            }
        }
    }

    private static void anOccurrenceHasEveryLetterOfThePattern() {
        for (int cell = 0; cell < 16; cell++) {
            int j = cell % 4;
            int i = cell / 4;
            TwoDimMatcher m = new TwoDimMatcher(5, 5);
            m.shape(0, 4, 4);
            m.write(1 + j, 1 + i, 2);
            due("with another letter in row " + i + ", column " + j, m.occurs(0, 1, 1), false);
            m.paint(0, j, i, 1);
            due("with a third letter in row " + i + ", column " + j, m.occurs(0, 1, 1), false);
            m.paint(0, j, i, 2);
            due("with the same letter in row " + i + ", column " + j, m.occurs(0, 1, 1), true);
            due("counted", m.occurrences(0), 1);
        }
    }

    // ---- Promise 1 ----

    private static void sidesAreClamped() {
        for (int columns : NUMBERS) {
            for (int rows : NUMBERS) {
                int width = columns < 4 ? 4 : columns > 12 ? 12 : columns;
                int height = rows < 4 ? 4 : rows > 12 ? 12 : rows;
                TwoDimMatcher m = new TwoDimMatcher(columns, rows);
                String of = call("new", columns, rows) + ": ";
                due(of + "its last place", m.letter(width - 1, height - 1), 0);
                due(of + "right of its last place", m.letter(width, height - 1), BAD);
                due(of + "below its last place", m.letter(width - 1, height), BAD);
                due(of + "a write in its last place", m.write(width - 1, height - 1, 1), true);
                due(of + "the number of its last place", m.next(0, 0), 16 * (height - 1) + width - 1);
                m.shape(1, 1, 1);
                due(of + "its places with 0", m.occurrences(1), width * height - 1);
            }
        }
    }

    private static void aNewTextHasZerosAlone() {
        for (int width = 4; width <= 12; width++) {
            for (int height = 4; height <= 12; height++) {
                TwoDimMatcher m = new TwoDimMatcher(width, height);
                due("the text", textOf(m, width, height), ("0".repeat(width) + "\n").repeat(height));
                due("covered by the ones of the patterns", m.covered(), 0);
            }
        }
    }

    private static void aNewPatternIsASingle1() {
        for (int p = 0; p < 3; p++) {
            TwoDimMatcher m = new TwoDimMatcher(4, 4);
            due("occurrences in zeros", m.occurrences(p), 0);
            due("pattern " + p, patternOf(m, p), lines("1...", "....", "....", "...."));
            due("a second column", m.paint(p, 1, 0, 2), false);
            due("a second row", m.paint(p, 0, 1, 2), false);
            due("stamped in the last place", m.stamp(p, 3, 3), true);
            due("the last place", m.letter(3, 3), 1);
        }
    }

    private static void aNewObjectLeavesTheOthers() {
        TwoDimMatcher used = sample();
        TwoDimMatcher fresh = new TwoDimMatcher(SAMPLE_HEIGHT, SAMPLE_WIDTH);
        due("the text of the new object", textOf(fresh, SAMPLE_HEIGHT, SAMPLE_WIDTH), "000000\n".repeat(SAMPLE_WIDTH));
        for (int p = 0; p < 3; p++) {
            due("pattern " + p + " of the new object", patternOf(fresh, p), lines("1...", "....", "....", "...."));
            fresh.shape(p, 4, 4);
        }
        due("the new object", allThatIsSeen(used), allThatIsSeen(sample()));
    }

    // ---- Promise 2 ----

    private static void writeSetsOnePlace() {
        for (int place = 0; place < 20; place++) {
            for (int letter = 0; letter < 3; letter++) {
                TwoDimMatcher m = new TwoDimMatcher(5, 4);
                fill(m, 5, 4, 1);
                due(call("write", place % 5, place / 5, letter), m.write(place % 5, place / 5, letter), true);
                StringBuilder want = new StringBuilder("11111111111111111111");
                want.setCharAt(place, (char) ('0' + letter));
                due(call("write", place % 5, place / 5, letter), textOf(m, 5, 4), lines(want.substring(0, 5), want.substring(5, 10),
                    want.substring(10, 15), want.substring(15)));
            }
        }
    }

    private static void writeRefusesWhatIsNotInTheText() {
        for (int x : NUMBERS) {
            for (int y : NUMBERS) {
                if (inSample(x, y)) {
                    due(call("write", x, y, 1), sample().write(x, y, 1), true);
                } else {
                    refused(call("write", x, y, 1), 0, m -> number(m.write(x, y, 1)));
                }
            }
        }
    }

    private static void writeRefusesWhatIsNotALetter() {
        for (int letter : NOT_A_LETTER) {
            refused(call("write", 0, 0, letter), 0, m -> number(m.write(0, 0, letter)));
            refused(call("write", 4, 5, letter), 0, m -> number(m.write(4, 5, letter)));
            refused(call("write", 5, 5, letter), 0, m -> number(m.write(5, 5, letter)));
        }
    }

    private static void writeOfTheSameLetterIsNotRefused() {
        TwoDimMatcher m = sample();
        due(call("write", 4, 5, 1), m.write(4, 5, 1), true);
        due("the same letter written again", allThatIsSeen(m), allThatIsSeen(sample()));
    }

    // ---- Promise 3 ----

    private static void shapeMakesAllLetters0() {
        for (int p = 0; p < 3; p++) {
            for (int columns = 1; columns <= 4; columns++) {
                for (int rows = 1; rows <= 4; rows++) {
                    TwoDimMatcher m = new TwoDimMatcher(4, 4);
                    pattern(m, p, "1212", "2121", "1212", "2121");
                    fill(m, 4, 4, 2);
                    due(call("shape", p, columns, rows), m.shape(p, columns, rows), true);
                    due("the text", textOf(m, 4, 4), "2222\n".repeat(4));
                    String row = "0".repeat(columns) + ".".repeat(4 - columns) + "\n";
                    due(call("shape", p, columns, rows), patternOf(m, p), row.repeat(rows) + "....\n".repeat(4 - rows));
                    m.shape(p, 4, 4);
                    due("the greatest size after it", patternOf(m, p), "0000\n".repeat(4));
                    due("another pattern", patternOf(m, (p + 1) % 3), lines("1...", "....", "....", "...."));
                    due("the third pattern", patternOf(m, (p + 2) % 3), lines("1...", "....", "....", "...."));
                }
            }
        }
    }

    private static void shapeToTheSameSizeMakesAllLetters0() {
        TwoDimMatcher m = sample();
        due(call("shape", 0, 3, 2), m.shape(0, 3, 2), true);
        due(call("shape", 2, 1, 1), m.shape(2, 1, 1), true);
        due("pattern 0", patternOf(m, 0), lines("000.", "000.", "....", "...."));
        due("pattern 2", patternOf(m, 2), lines("0...", "....", "....", "...."));
    }

    private static void shapeRefusesWhatIsNotAPattern() {
        for (int p : NOT_A_PATTERN) {
            refused(call("shape", p, 1, 1), 0, m -> number(m.shape(p, 1, 1)));
            refused(call("shape", p, 4, 4), 0, m -> number(m.shape(p, 4, 4)));
            refused(call("shape", p, 0, 5), 0, m -> number(m.shape(p, 0, 5)));
        }
    }

    private static void shapeRefusesWhatIsNotASize() {
        for (int p = 0; p < 3; p++) {
            int q = p;
            for (int side : NOT_A_PATTERN_SIDE) {
                for (int other = 1; other <= 4; other++) {
                    int right = other;
                    refused(call("shape", q, side, right), 0, m -> number(m.shape(q, side, right)));
                    refused(call("shape", q, right, side), 0, m -> number(m.shape(q, right, side)));
                }
                refused(call("shape", q, side, side), 0, m -> number(m.shape(q, side, side)));
            }
        }
    }

    private static void shapeMayBeAsLargeAsTheText() {
        TwoDimMatcher m = new TwoDimMatcher(4, 4);
        due(call("shape", 2, 4, 4), m.shape(2, 4, 4), true);
        due("occurrences", m.occurrences(2), 1);
        due("covered", m.covered(), 16);
        due("overlaps", m.overlaps(2), 0);
        due("copied from the one place", m.copy(2, 0, 0), true);
        due("stamped at the one place", m.stamp(2, 0, 0), true);
        due("stamped one column further", m.stamp(2, 1, 0), false);
        due("stamped one row further", m.stamp(2, 0, 1), false);
    }

    // ---- Promise 4 ----

    private static void paintSetsOneLetter() {
        for (int p = 0; p < 3; p++) {
            for (int cell = 0; cell < 16; cell++) {
                for (int letter = 0; letter < 3; letter++) {
                    TwoDimMatcher m = new TwoDimMatcher(4, 4);
                    for (int q = 0; q < 3; q++) {
                        pattern(m, q, "1111", "1111", "1111", "1111");
                    }
                    fill(m, 4, 4, 2 - letter / 2);
                    due(call("paint", p, cell % 4, cell / 4, letter), m.paint(p, cell % 4, cell / 4, letter), true);
                    StringBuilder want = new StringBuilder("1111\n1111\n1111\n1111\n");
                    want.setCharAt(cell / 4 * 5 + cell % 4, (char) ('0' + letter));
                    due("the text", textOf(m, 4, 4), (letter == 2 ? "1111\n" : "2222\n").repeat(4));
                    due(call("paint", p, cell % 4, cell / 4, letter), patternOf(m, p), want.toString());
                    due("another pattern", patternOf(m, (p + 1) % 3), "1111\n".repeat(4));
                    due("the third pattern", patternOf(m, (p + 2) % 3), "1111\n".repeat(4));
                }
            }
        }
    }

    private static void paintRefusesWhatIsNotAPattern() {
        for (int p : NOT_A_PATTERN) {
            for (int letter = 0; letter < 3; letter++) {
                int painted = letter;
                refused(call("paint", p, 0, 0, painted), 0, m -> number(m.paint(p, 0, 0, painted)));
            }
            refused(call("paint", p, -1, 4, 3), 0, m -> number(m.paint(p, -1, 4, 3)));
        }
    }

    private static void paintRefusesWhatIsNotInThePattern() {
        for (int p = 0; p < 3; p++) {
            int q = p;
            for (int j : NUMBERS) {
                for (int i : NUMBERS) {
                    if (within(j, 0, SAMPLE_COLUMNS[p] - 1) && within(i, 0, SAMPLE_ROWS[p] - 1)) {
                        due(call("paint", p, j, i, 1), sample().paint(p, j, i, 1), true);
                    } else {
                        refused(call("paint", p, j, i, 1), 0, m -> number(m.paint(q, j, i, 1)));
                    }
                }
            }
        }
    }

    private static void paintRefusesWhatANarrowerShapeLeftOut() {
        TwoDimMatcher m = new TwoDimMatcher(4, 4);
        m.shape(0, 4, 4);
        due("before it is narrower", m.paint(0, 3, 3, 1), true);
        m.shape(0, 3, 4);
        due("column 3 of three", m.paint(0, 3, 3, 1), false);
        m.shape(0, 4, 3);
        due("row 3 of three", m.paint(0, 3, 3, 1), false);
        m.shape(0, 4, 4);
        due("pattern 0", patternOf(m, 0), "0000\n".repeat(4));
    }

    private static void paintRefusesWhatIsNotALetter() {
        for (int letter : NOT_A_LETTER) {
            refused(call("paint", 0, 0, 0, letter), 0, m -> number(m.paint(0, 0, 0, letter)));
            refused(call("paint", 0, 2, 1, letter), 0, m -> number(m.paint(0, 2, 1, letter)));
            refused(call("paint", 1, 1, 2, letter), 0, m -> number(m.paint(1, 1, 2, letter)));
            refused(call("paint", 2, 0, 0, letter), 0, m -> number(m.paint(2, 0, 0, letter)));
        }
    }

    // ---- Promise 5 ----

    private static void copyTakesThePatternsSize() {
        String[] rows = {"01201", "12012", "20120", "01201", "12012", "20121"};
        for (int p = 0; p < 3; p++) {
            for (int columns = 1; columns <= 4; columns++) {
                for (int height = 1; height <= 4; height++) {
                    copyFromEachCorner(rows, p, columns, height);
                }
            }
        }
    }

    private static void copyFromEachCorner(String[] rows, int p, int columns, int height) {
        int[][] corners = {{0, 0}, {5 - columns, 0}, {0, 6 - height}, {5 - columns, 6 - height}};
        for (int[] corner : corners) {
            TwoDimMatcher m = text(rows);
            m.shape(p, columns, height);
            due(call("copy", p, corner[0], corner[1]), m.copy(p, corner[0], corner[1]), true);
            due("the text after a copy", textOf(m, 5, 6), lines(rows));
            due("occurs where it was copied", m.occurs(p, corner[0], corner[1]), true);
            StringBuilder want = new StringBuilder();
            for (int i = 0; i < 4; i++) {
                String part = i < height ? rows[corner[1] + i].substring(corner[0], corner[0] + columns) : "";
                want.append(part).append(".".repeat(4 - part.length())).append('\n');
            }
            due(call("copy", p, corner[0], corner[1]), patternOf(m, p), want.toString());
            due("another pattern", patternOf(m, (p + 1) % 3), lines("1...", "....", "....", "...."));
            due("the third pattern", patternOf(m, (p + 2) % 3), lines("1...", "....", "....", "...."));
        }
    }

    private static void copyDoesNotFollowTheText() {
        TwoDimMatcher m = sample();
        due(call("copy", 0, 2, 4), m.copy(0, 2, 4), true);
        fill(m, SAMPLE_WIDTH, SAMPLE_HEIGHT, 0);
        due("after the text was overwritten", patternOf(m, 0), lines("012.", "121.", "....", "...."));
    }

    private static void copyRefusesWhatIsNotAPattern() {
        for (int p : NOT_A_PATTERN) {
            refused(call("copy", p, 0, 0), 0, m -> number(m.copy(p, 0, 0)));
            refused(call("copy", p, 1, 1), 0, m -> number(m.copy(p, 1, 1)));
            refused(call("copy", p, -1, 6), 0, m -> number(m.copy(p, -1, 6)));
        }
    }

    private static void copyRefusesAPartNotWhollyInTheText() {
        for (int p = 0; p < 3; p++) {
            int q = p;
            for (int x : NUMBERS) {
                for (int y : NUMBERS) {
                    if (whollyInSample(p, x, y)) {
                        due(call("copy", p, x, y), sample().copy(p, x, y), true);
                    } else {
                        refused(call("copy", p, x, y), 0, m -> number(m.copy(q, x, y)));
                    }
                }
            }
        }
    }

    // ---- Promise 6 ----

    private static void stampMakesThePatternOccur() {
        for (int p = 0; p < 3; p++) {
            for (int y = 0; y <= SAMPLE_HEIGHT - SAMPLE_ROWS[p]; y++) {
                for (int x = 0; x <= SAMPLE_WIDTH - SAMPLE_COLUMNS[p]; x++) {
                    TwoDimMatcher m = sample();
                    String before = textOf(m, SAMPLE_WIDTH, SAMPLE_HEIGHT);
                    due(call("stamp", p, x, y), m.stamp(p, x, y), true);
                    due("occurs after " + call("stamp", p, x, y), m.occurs(p, x, y), true);
                    String after = textOf(m, SAMPLE_WIDTH, SAMPLE_HEIGHT);
                    due("around " + call("stamp", p, x, y), without(after, p, x, y), without(before, p, x, y));
                    for (int q = 0; q < 3; q++) {
                        due("pattern " + q + " after " + call("stamp", p, x, y), patternOf(m, q), patternOf(sample(), q));
                    }
                }
            }
        }
    }

    private static String without(String rows, int p, int x, int y) {
        StringBuilder around = new StringBuilder(rows);
        for (int i = 0; i < SAMPLE_ROWS[p]; i++) {
            for (int j = 0; j < SAMPLE_COLUMNS[p]; j++) {
                around.setCharAt((y + i) * (SAMPLE_WIDTH + 1) + x + j, '.');
            }
        }
        return around.toString();
    }

    private static void stampWritesZerosToo() {
        TwoDimMatcher m = new TwoDimMatcher(4, 4);
        fill(m, 4, 4, 2);
        m.shape(0, 4, 4);
        due(call("stamp", 0, 0, 0), m.stamp(0, 0, 0), true);
        due("a whole text of zeros stamped", textOf(m, 4, 4), "0000\n".repeat(4));
    }

    private static void stampRefusesWhatIsNotAPattern() {
        for (int p : NOT_A_PATTERN) {
            refused(call("stamp", p, 0, 0), 0, m -> number(m.stamp(p, 0, 0)));
            refused(call("stamp", p, 1, 1), 0, m -> number(m.stamp(p, 1, 1)));
            refused(call("stamp", p, -1, 6), 0, m -> number(m.stamp(p, -1, 6)));
        }
    }

    private static void stampRefusesAPartNotWhollyInTheText() {
        for (int p = 0; p < 3; p++) {
            int q = p;
            for (int x : NUMBERS) {
                for (int y : NUMBERS) {
                    if (whollyInSample(p, x, y)) {
                        due(call("stamp", p, x, y), sample().stamp(p, x, y), true);
                    } else {
                        refused(call("stamp", p, x, y), 0, m -> number(m.stamp(q, x, y)));
                    }
                }
            }
        }
    }

    // ---- Promise 7 ----

    private static void letterIsBadOutsideTheText() {
        String[] rows = {"01201", "12012", "20120", "01201", "12012", "20121"};
        TwoDimMatcher m = text(rows);
        due("all its letters", textOf(m, SAMPLE_WIDTH, SAMPLE_HEIGHT), lines(rows));
        for (int x : NUMBERS) {
            for (int y : NUMBERS) {
                if (inSample(x, y)) {
                    due(call("letter", x, y), sample().letter(x, y), rows[y].charAt(x) - '0');
                } else {
                    refused(call("letter", x, y), BAD, o -> o.letter(x, y));
                }
            }
        }
    }

    // ---- Promise 8 ----

    private static void occurrencesFromNoneToAll() {
        for (int[] size : SIZES) {
            int places = size[0] * size[1];
            for (int p = 0; p < 3; p++) {
                TwoDimMatcher m = new TwoDimMatcher(size[0], size[1]);
                due("at no place", m.occurrences(p), 0);
                m.write(size[0] - 1, size[1] - 1, 1);
                due("at the last place", m.occurrences(p), 1);
                m.write(0, 0, 1);
                due("at the first and the last place", m.occurrences(p), 2);
                m.paint(p, 0, 0, 0);
                due("at all places but two", m.occurrences(p), places - 2);
                fill(m, size[0], size[1], 0);
                due("at all places", m.occurrences(p), places);
            }
        }
    }

    private static void occurrencesIsBadForWhatIsNotAPattern() {
        for (int p : NOT_A_PATTERN) {
            refused(call("occurrences", p), BAD, m -> m.occurrences(p));
        }
    }

    // ---- Promise 9 ----

    private static void occursIsFalseForWhatIsNotAPattern() {
        for (int p : NOT_A_PATTERN) {
            for (int y = 0; y < 4; y++) {
                for (int x = 0; x < 4; x++) {
                    TwoDimMatcher m = new TwoDimMatcher(4, 4);
                    for (int q = 0; q < 3; q++) {
                        m.shape(q, 1, 1);
                    }
                    due(call("occurs", p, x, y), m.occurs(p, x, y), false);
                }
            }
            refused(call("occurs", p, 2, 0), 0, m -> number(m.occurs(p, 2, 0)));
        }
    }

    private static void occursIsFalseOutsideTheText() {
        for (int x : NUMBERS) {
            for (int y : NUMBERS) {
                TwoDimMatcher m = new TwoDimMatcher(SAMPLE_WIDTH, SAMPLE_HEIGHT);
                m.shape(0, 1, 1);
                due(call("occurs", 0, x, y) + " of a 0 in zeros", m.occurs(0, x, y), inSample(x, y));
                if (!inSample(x, y)) {
                    refused(call("occurs", 1, x, y), 0, o -> number(o.occurs(1, x, y)));
                }
            }
        }
    }

    // ---- Promise 10 ----

    private static void nextIsNotBelowFrom() {
        TwoDimMatcher m = text("1000", "0000", "0001", "1001");
        int[] numbers = {0, 35, 48, 51};
        for (int from = -20; from <= 70; from++) {
            int want = NONE;
            for (int k = numbers.length - 1; k >= 0; k--) {
                want = numbers[k] >= from ? numbers[k] : want;
            }
            due(call("next", 2, from), m.next(2, from), want);
        }
    }

    private static void nextTakesAnyFrom() {
        for (int[] size : SIZES) {
            int last = 16 * (size[1] - 1) + size[0] - 1;
            TwoDimMatcher m = new TwoDimMatcher(size[0], size[1]);
            m.write(size[0] - 1, size[1] - 1, 1);
            m.write(1, 0, 1);
            for (int from : NUMBERS) {
                due(call("next", 0, from), m.next(0, from), from <= 1 ? 1 : from <= last ? last : NONE);
            }
            due("from the last", m.next(0, last), last);
            due("after the last", m.next(0, last + 1), NONE);
        }
    }

    private static void nextFromANumberThatIsNoPlace() {
        TwoDimMatcher m = new TwoDimMatcher(5, 4);
        m.shape(1, 1, 1);
        for (int y = 0; y < 4; y++) {
            for (int column = 5; column <= 16; column++) {
                due(call("next", 1, 16 * y + column), m.next(1, 16 * y + column), y < 3 ? 16 * (y + 1) : NONE);
            }
        }
    }

    private static void nextIsNoneIfThereIsNone() {
        TwoDimMatcher never = new TwoDimMatcher(12, 12);
        for (int from : NUMBERS) {
            due(call("next", 0, from) + " where it never occurs", never.next(0, from), NONE);
        }
        for (int p = 0; p < 3; p++) {
            int q = p;
            refused(call("next", p, 1000), NONE, m -> m.next(q, 1000));
            refused(call("next", p, HIGH), NONE, m -> m.next(q, HIGH));
        }
    }

    private static void nextIsBadForWhatIsNotAPattern() {
        for (int p : NOT_A_PATTERN) {
            refused(call("next", p, 0), BAD, m -> m.next(p, 0));
            refused(call("next", p, LOW), BAD, m -> m.next(p, LOW));
            refused(call("next", p, HIGH) + ", beyond the last place", BAD, m -> m.next(p, HIGH));
        }
    }

    // ---- Promise 11 ----

    private static void coveredFromNoneToAll() {
        for (int[] size : SIZES) {
            for (int p = 0; p < 3; p++) {
                TwoDimMatcher m = new TwoDimMatcher(size[0], size[1]);
                due("no place", m.covered(), 0);
                m.write(size[0] - 1, size[1] - 1, 1);
                due("the last place, by three patterns", m.covered(), 1);
                m.write(0, 0, 1);
                due("the first and the last place", m.covered(), 2);
                fill(m, size[0], size[1], 2);
                due("no place again", m.covered(), 0);
                m.shape(p, 4, 4);
                due("no place by " + p, m.covered(), 0);
                fill(m, size[0], size[1], 0);
                due("all places, by pattern " + p + " alone", m.covered(), size[0] * size[1]);
            }
        }
    }

    private static void coveredCountsAPlaceOnce() {
        for (int columns = 1; columns <= 4; columns++) {
            for (int rows = 1; rows <= 4; rows++) {
                TwoDimMatcher m = new TwoDimMatcher(9, 8);
                for (int p = 0; p < 3; p++) {
                    m.shape(p, columns, rows);
                    for (int cell = 0; cell < columns * rows; cell++) {
                        m.paint(p, cell % columns, cell / columns, 2);
                    }
                }
                m.stamp(0, 0, 0);
                due("one occurrence of three equal patterns", m.covered(), columns * rows);
                m.stamp(1, columns - 1, rows - 1);
                due("two that have one place in common", m.covered(), 2 * columns * rows - 1);
            }
        }
    }

    private static void coveredBySomeOfThePatterns() {
        for (int p = 0; p < 3; p++) {
            TwoDimMatcher m = new TwoDimMatcher(8, 8);
            pattern(m, p, "1212");
            pattern(m, (p + 1) % 3, "2", "2", "1", "1");
            pattern(m, (p + 2) % 3, "22", "22");
            m.stamp(p, 4, 7);
            due("by one pattern", m.covered(), 4);
            m.stamp((p + 1) % 3, 0, 4);
            due("by two patterns", m.covered(), 8);
            m.stamp((p + 2) % 3, 6, 0);
            due("by three patterns", m.covered(), 12);
            m.write(7, 7, 0);
            due("when one of them occurs no more", m.covered(), 8);
        }
    }

    // ---- Promise 12 ----

    private static void overlapsOfDifferentPlacesOnce() {
        for (int[] size : SIZES) {
            for (int columns = 1; columns <= 4; columns++) {
                for (int rows = 1; rows <= 4; rows++) {
                    for (int p = 0; p < 3; p++) {
                        TwoDimMatcher m = new TwoDimMatcher(size[0], size[1]);
                        m.shape(p, columns, rows);
                        int across = size[0] - columns + 1;
                        int down = size[1] - rows + 1;
                        int ordered = near(across, columns) * near(down, rows) - across * down;
                        due(columns + " by " + rows + " zeros in " + size[0] + " by " + size[1], m.overlaps(p), ordered / 2);
                    }
                }
            }
        }
    }

    /** The ordered couples, each number with itself too, of 0 .. count - 1 that are less than reach apart. */
    private static int near(int count, int reach) {
        int couples = 0;
        for (int a = 0; a < count; a++) {
            for (int b = 0; b < count; b++) {
                couples += Math.abs(a - b) < reach ? 1 : 0;
            }
        }
        return couples;
    }

    private static void overlapsNeedAPlaceInCommon() {
        for (int columns = 1; columns <= 4; columns++) {
            for (int rows = 1; rows <= 4; rows++) {
                for (int right = -columns; right <= columns; right++) {
                    for (int down = 0; down <= rows; down++) {
                        overlapOfTwo(marked(columns, rows, 0), right, down);
                        overlapOfTwo(marked(columns, rows, columns - 1), right, down);
                        overlapOfTwo(marked(columns, rows, -1), right, down);
                    }
                }
            }
        }
    }

    /** Zeros with a 1 in the top row, which no third occurrence can share; column -1 leaves it out. */
    private static String[] marked(int columns, int rows, int column) {
        String[] zeros = new String[rows];
        java.util.Arrays.fill(zeros, "0".repeat(columns));
        if (column >= 0) {
            zeros[0] = "0".repeat(column) + "1" + "0".repeat(columns - column - 1);
        }
        return zeros;
    }

    private static void overlapOfTwo(String[] rows, int right, int down) {
        TwoDimMatcher m = new TwoDimMatcher(12, 8);
        fill(m, 12, 8, 2);
        pattern(m, 0, rows);
        due("the first one stamped", m.stamp(0, 4, 0), true);
        due("the second one stamped", m.stamp(0, 4 + right, down), true);
        due(String.join("/", rows) + " stamped twice, " + right + " to the right and " + down + " down", m.overlaps(0),
            couples(textOf(m, 12, 8).split("\n"), rows));
    }

    private static int couples(String[] text, String[] rows) {
        int count = 0;
        for (int one = 0; one < text.length * text[0].length(); one++) {
            for (int other = 0; other < one; other++) {
                int right = Math.abs(one % text[0].length() - other % text[0].length());
                int down = one / text[0].length() - other / text[0].length();
                boolean common = right < rows[0].length() && down < rows.length;
                count += common && isAt(text, rows, one) && isAt(text, rows, other) ? 1 : 0;
            }
        }
        return count;
    }

    private static boolean isAt(String[] text, String[] rows, int place) {
        int x = place % text[0].length();
        int y = place / text[0].length();
        boolean same = y + rows.length <= text.length;
        for (int i = 0; same && i < rows.length; i++) {
            same = text[y + i].startsWith(rows[i], x);
        }
        return same;
    }

    private static void overlapsDoNotReachRoundAnEdge() {
        TwoDimMatcher m = new TwoDimMatcher(4, 4);
        fill(m, 4, 4, 2);
        pattern(m, 0, "11");
        m.stamp(0, 2, 0);
        m.stamp(0, 0, 1);
        due("at the end of a row and at the beginning of the next", m.overlaps(0), 0);
        TwoDimMatcher great = new TwoDimMatcher(12, 12);
        fill(great, 12, 12, 2);
        pattern(great, 0, "1111");
        great.stamp(0, 8, 0);
        great.stamp(0, 0, 1);
        due("at the end of the greatest row and at the beginning of the next", great.overlaps(0), 0);
    }

    private static void overlapsOfNoneOrOneOccurrence() {
        TwoDimMatcher m = new TwoDimMatcher(6, 6);
        pattern(m, 1, "12", "21");
        due("of none", m.overlaps(1), 0);
        m.stamp(1, 4, 4);
        due("of one", m.overlaps(1), 0);
        due("of a pattern whose places are next to each other", m.overlaps(0), 0);
    }

    private static void overlapsAreOfOnePatternAlone() {
        TwoDimMatcher m = new TwoDimMatcher(6, 6);
        pattern(m, 0, "12");
        pattern(m, 1, "12", "00");
        pattern(m, 2, "21");
        m.stamp(0, 0, 0);
        m.stamp(2, 1, 0);
        for (int p = 0; p < 3; p++) {
            due(call("overlaps", p), m.overlaps(p), 0);
        }
    }

    private static void overlapsIsBadForWhatIsNotAPattern() {
        for (int p : NOT_A_PATTERN) {
            refused(call("overlaps", p), BAD, m -> m.overlaps(p));
        }
    }

    // ---- Promise 13 ----

    /** Here the refused calls follow one another on one object, which must then still take every call that is not refused. */
    private static void refusedCallsChangeNothing() {
        TwoDimMatcher m = sample();
        due("write", m.write(5, 6, 3), false);
        due("write", m.write(0, 0, 3), false);
        due("write", m.write(0, 6, 1), false);
        due("shape", m.shape(3, 1, 1), false);
        due("shape", m.shape(0, 4, 5), false);
        due("shape", m.shape(0, 0, 4), false);
        due("paint", m.paint(-1, 0, 0, 1), false);
        due("paint", m.paint(0, 3, 0, 1), false);
        due("paint", m.paint(0, 0, 2, 1), false);
        due("paint", m.paint(0, 0, 0, 3), false);
        due("copy", m.copy(3, 0, 0), false);
        due("copy", m.copy(0, 3, 1), false);
        due("copy", m.copy(0, 1, 5), false);
        due("stamp", m.stamp(3, 0, 0), false);
        due("stamp", m.stamp(0, 3, 1), false);
        due("stamp", m.stamp(0, 1, 5), false);
        due("letter", m.letter(5, 0), BAD);
        due("occurrences", m.occurrences(3), BAD);
        due("occurs", m.occurs(3, 0, 0), false);
        due("next", m.next(3, 0), BAD);
        due("next", m.next(0, 1000), NONE);
        due("overlaps", m.overlaps(3), BAD);
        due("all of these refused calls", allThatIsSeen(m), allThatIsSeen(sample()));
        due("write after them", m.write(4, 5, 0), true);
        due("shape after them", m.shape(0, 2, 2), true);
        due("paint after them", m.paint(0, 1, 1, 0), true);
        due("stamp after them", m.stamp(0, 3, 4), true);
        due("copy after them", m.copy(0, 3, 4), true);
        due("occurs after them", m.occurs(0, 3, 4), true);
    }

    private static void namedCodesAreBelow0() {
        due("BAD", TwoDimMatcher.BAD, -1);
        due("NONE", TwoDimMatcher.NONE, -2);
    }

    // ---- the sentences ----

    private static void test(String told, Runnable test) {
        sentence = told;
        tests++;
        test.run();
    }

    private static void whatItIsAndTerms() {
        test("What it is: used for at most 512 calls after it has been made", BoundaryTest::allOf512CallsAnswerAsDue);
        test("Terms: a letter is a number from 0 to 2", BoundaryTest::lettersAreFrom0To2);
        test("Terms: rows are numbered from 0 at the top, columns from 0 at the left", BoundaryTest::rowsAndColumnsBeginAt0);
        test("Terms: the place of row y and column x has the number 16 * y + x", BoundaryTest::numberOfAPlaceIs16TimesItsRowPlusItsColumn);
        test("Terms: three patterns, 0 to 2, each with 1 to 4 rows and 1 to 4 columns", BoundaryTest::everyPatternMayHaveEverySize);
        test("Terms: they may have different sizes", BoundaryTest::patternsMayHaveDifferentSizes);
        test("Terms: occurs: for every i and j the place of row y + i and column x + j is in the text", BoundaryTest::anOccurrenceIsWhollyInTheText);
        test("Terms: occurs: for every i and j the place has the pattern's letter", BoundaryTest::anOccurrenceHasEveryLetterOfThePattern);
    }

    private static void promises1To4() {
        test("Promise 1: W is columns and H is rows, each clamped into 4..12", BoundaryTest::sidesAreClamped);
        test("Promise 1: all letters of the text are 0", BoundaryTest::aNewTextHasZerosAlone);
        test("Promise 1: each pattern has one row and one column, with the letter 1", BoundaryTest::aNewPatternIsASingle1);
        test("Promise 1: a new object, beside one that is in use", BoundaryTest::aNewObjectLeavesTheOthers);
        test("Promise 2: sets the letter of a place of the text", BoundaryTest::writeSetsOnePlace);
        test("Promise 2: x, y not in the text: refused", BoundaryTest::writeRefusesWhatIsNotInTheText);
        test("Promise 2: letter outside 0..2: refused", BoundaryTest::writeRefusesWhatIsNotALetter);
        test("Promise 2: else true", BoundaryTest::writeOfTheSameLetterIsNotRefused);
        test("Promise 3: makes pattern p have this size; all its letters become 0", BoundaryTest::shapeMakesAllLetters0);
        test("Promise 3: all its letters become 0, in the same size too", BoundaryTest::shapeToTheSameSizeMakesAllLetters0);
        test("Promise 3: p outside 0..2: refused", BoundaryTest::shapeRefusesWhatIsNotAPattern);
        test("Promise 3: columns or rows outside 1..4: refused", BoundaryTest::shapeRefusesWhatIsNotASize);
        test("Promise 3: else true, for a pattern as large as the text too", BoundaryTest::shapeMayBeAsLargeAsTheText);
        test("Promise 4: sets the letter of a pattern in row i and column j", BoundaryTest::paintSetsOneLetter);
        test("Promise 4: p outside 0..2: refused", BoundaryTest::paintRefusesWhatIsNotAPattern);
        test("Promise 4: i or j not in the pattern: refused", BoundaryTest::paintRefusesWhatIsNotInThePattern);
        test("Promise 4: i or j not in the pattern, since its last shape: refused", BoundaryTest::paintRefusesWhatANarrowerShapeLeftOut);
        test("Promise 4: letter outside 0..2: refused", BoundaryTest::paintRefusesWhatIsNotALetter);
    }

    private static void promises5To9() {
        test("Promise 5: a copy of the part that begins at row y and column x, in the pattern's size", BoundaryTest::copyTakesThePatternsSize);
        test("Promise 5: makes the pattern a copy", BoundaryTest::copyDoesNotFollowTheText);
        test("Promise 5: p outside 0..2: refused", BoundaryTest::copyRefusesWhatIsNotAPattern);
        test("Promise 5: the part is not wholly in the text: refused", BoundaryTest::copyRefusesAPartNotWhollyInTheText);
        test("Promise 6: writes pattern p so that it occurs at row y and column x", BoundaryTest::stampMakesThePatternOccur);
        test("Promise 6: writes pattern p, its letters 0 too", BoundaryTest::stampWritesZerosToo);
        test("Promise 6: p outside 0..2: refused", BoundaryTest::stampRefusesWhatIsNotAPattern);
        test("Promise 6: the part is not wholly in the text: refused", BoundaryTest::stampRefusesAPartNotWhollyInTheText);
        test("Promise 7: BAD if it is not in the text", BoundaryTest::letterIsBadOutsideTheText);
        test("Promise 8: the number of places at which pattern p occurs, from none to all", BoundaryTest::occurrencesFromNoneToAll);
        test("Promise 8: BAD for p outside 0..2", BoundaryTest::occurrencesIsBadForWhatIsNotAPattern);
        test("Promise 9: false for p outside 0..2", BoundaryTest::occursIsFalseForWhatIsNotAPattern);
        test("Promise 9: false for a place not in the text", BoundaryTest::occursIsFalseOutsideTheText);
    }

    private static void promises10To13() {
        test("Promise 10: the smallest number, not below from", BoundaryTest::nextIsNotBelowFrom);
        test("Promise 10: from (any int)", BoundaryTest::nextTakesAnyFrom);
        test("Promise 10: from (any int), the number of no place", BoundaryTest::nextFromANumberThatIsNoPlace);
        test("Promise 10: NONE if there is none", BoundaryTest::nextIsNoneIfThereIsNone);
        test("Promise 10: BAD for p outside 0..2", BoundaryTest::nextIsBadForWhatIsNotAPattern);
        test("Promise 11: the number of places that are covered, from none to all", BoundaryTest::coveredFromNoneToAll);
        test("Promise 11: the number of places, each counted once", BoundaryTest::coveredCountsAPlaceOnce);
        test("Promise 11: some occurrence of some of the patterns", BoundaryTest::coveredBySomeOfThePatterns);
        test("Promise 12: couples of different places (a couple counts once)", BoundaryTest::overlapsOfDifferentPlacesOnce);
        test("Promise 12: the two occurrences have a place in common", BoundaryTest::overlapsNeedAPlaceInCommon);
        test("Promise 12: a place in common, not round an edge", BoundaryTest::overlapsDoNotReachRoundAnEdge);
        test("Promise 12: couples of different places, of none or one", BoundaryTest::overlapsOfNoneOrOneOccurrence);
        test("Promise 12: places at which pattern p occurs, not another one", BoundaryTest::overlapsAreOfOnePatternAlone);
        test("Promise 12: BAD for p outside 0..2", BoundaryTest::overlapsIsBadForWhatIsNotAPattern);
        test("Promise 13: a call that is refused changes nothing", BoundaryTest::refusedCallsChangeNothing);
        test("Promise 13: a code below 0 that is named", BoundaryTest::namedCodesAreBelow0);
    }

    public static void main(String[] args) {
        whatItIsAndTerms();
        promises1To4();
        promises5To9();
        promises10To13();
        System.out.println(tests + " sentences tested, " + wrong + " answers are not as due");
        if (wrong != 0) {
            System.exit(1);
        }
    }
}
