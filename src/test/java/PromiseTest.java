/** One method for each promise of the document: ordinary inputs, the edges it names, and wrong inputs. */
public final class PromiseTest {
    private static final int LOW = Integer.MIN_VALUE;
    private static final int HIGH = Integer.MAX_VALUE;
    private static final int[] NOT_A_PATTERN = {LOW, -1, 3, 4, HIGH};
    private static final int[] NOT_A_LETTER = {LOW, -1, 3, HIGH};

    private static int wrong = 0;
    private static int promise = 0;

    private static void due(String what, int got, int want) {
        if (got != want) {
            wrong++;
            System.out.println("promise " + promise + ": " + what + " answered " + got + ", due is " + want);
        }
    }

    private static void due(String what, boolean got, boolean want) {
        if (got != want) {
            wrong++;
            System.out.println("promise " + promise + ": " + what + " answered " + got + ", due is " + want);
        }
    }

    private static int digit(String rows, int index) {
        return rows.charAt(index) - '0';
    }

    /** A text of the given rows, such as {"0120", ...}. */
    private static TwoDimMatcher text(String... rows) {
        TwoDimMatcher m = new TwoDimMatcher(rows[0].length(), rows.length);
        for (int y = 0; y < rows.length; y++) {
            for (int x = 0; x < rows[y].length(); x++) {
                due("write(" + x + ", " + y + ")", m.write(x, y, digit(rows[y], x)), true);
            }
        }
        return m;
    }

    private static void pattern(TwoDimMatcher m, int p, String... rows) {
        due("shape(" + p + ")", m.shape(p, rows[0].length(), rows.length), true);
        for (int i = 0; i < rows.length; i++) {
            for (int j = 0; j < rows[i].length(); j++) {
                due("paint(" + p + ", " + j + ", " + i + ")", m.paint(p, j, i, digit(rows[i], j)), true);
            }
        }
    }

    private static void textIs(String when, TwoDimMatcher m, String... rows) {
        for (int y = 0; y < rows.length; y++) {
            for (int x = 0; x < rows[y].length(); x++) {
                due(when + ": letter(" + x + ", " + y + ")", m.letter(x, y), digit(rows[y], x));
            }
        }
        due(when + ": letter right of the text", m.letter(rows[0].length(), 0), TwoDimMatcher.BAD);
        due(when + ": letter below the text", m.letter(0, rows.length), TwoDimMatcher.BAD);
    }

    /** Stamps the pattern, which is the one way to see its letters, so the text's corner is lost. */
    private static void patternIs(String when, TwoDimMatcher m, int width, int height, int p, String... rows) {
        int x = width - rows[0].length();
        int y = height - rows.length;
        String what = when + ": pattern " + p;
        due(what + ", stamped one column too far right,", m.stamp(p, x + 1, y), false);
        due(what + ", stamped one row too low,", m.stamp(p, x, y + 1), false);
        due(what + ", stamped into the corner,", m.stamp(p, x, y), true);
        for (int i = 0; i < rows.length; i++) {
            for (int j = 0; j < rows[i].length(); j++) {
                due(what + ", row " + i + ", column " + j + ",", m.letter(x + j, y + i), digit(rows[i], j));
            }
        }
    }

    private static void newObject() {
        int[][] sides = {{LOW, 4}, {-1, 4}, {0, 4}, {3, 4}, {4, 4}, {5, 5}, {8, 8}, {11, 11}, {12, 12}, {13, 12}, {HIGH, 12}};
        for (int[] columns : sides) {
            for (int[] rows : sides) {
                newObjectOf(columns[0], rows[0], columns[1], rows[1]);
            }
        }
    }

    private static void newObjectOf(int columns, int rows, int width, int height) {
        TwoDimMatcher m = new TwoDimMatcher(columns, rows);
        String when = "new(" + columns + ", " + rows + ")";
        for (int y = 0; y < height; y++) {
            for (int x = 0; x < width; x++) {
                due(when + ": letter(" + x + ", " + y + ")", m.letter(x, y), 0);
            }
        }
        due(when + ": letter right of the text", m.letter(width, height - 1), TwoDimMatcher.BAD);
        due(when + ": letter below the text", m.letter(width - 1, height), TwoDimMatcher.BAD);
        due(when + ": covered", m.covered(), 0);
        for (int p = 0; p < 3; p++) {
            due(when + ": occurrences", m.occurrences(p), 0);
            patternIs(when, m, width, height, p, "1");
            due(when + ": occurrences when stamped", m.occurrences(p), 1);
            m.write(width - 1, height - 1, 0);
        }
    }

    private static void write() {
        TwoDimMatcher m = text("01201", "12012", "20120", "01201");
        String[] rows = {"01201", "12012", "20120", "01201"};
        textIs("after writing", m, rows);
        int[][] outside = {{-1, 0}, {5, 0}, {0, -1}, {0, 4}, {5, 4}, {-1, 1}, {16, 0}, {-16, 1}, {LOW, 0}, {HIGH, 0}, {0, LOW},
            {0, HIGH}, {0, 1 << 28}, {1, 1 << 28}};
        for (int[] place : outside) {
            due("write(" + place[0] + ", " + place[1] + ", 1)", m.write(place[0], place[1], 1), false);
        }
        for (int letter : NOT_A_LETTER) {
            due("write(1, 1, " + letter + ")", m.write(1, 1, letter), false);
        }
        textIs("after refusals", m, rows);
        due("write(4, 3, 0)", m.write(4, 3, 0), true);
        due("write(4, 3, 0) again", m.write(4, 3, 0), true);
        textIs("after the corner", m, "01201", "12012", "20120", "01200");
    }

    private static void shape() {
        for (int columns = 1; columns <= 4; columns++) {
            for (int rows = 1; rows <= 4; rows++) {
                TwoDimMatcher m = new TwoDimMatcher(6, 5);
                pattern(m, 1, "2222", "2222", "2222", "2222");
                due("shape(1, " + columns + ", " + rows + ")", m.shape(1, columns, rows), true);
                due("occurrences of zeros", m.occurrences(1), (7 - columns) * (6 - rows));
                for (int y = 0; y < 5; y++) {
                    for (int x = 0; x < 6; x++) {
                        m.write(x, y, 1);
                    }
                }
                String[] zeros = new String[rows];
                java.util.Arrays.fill(zeros, "0".repeat(columns));
                patternIs("after shape", m, 6, 5, 1, zeros);
                patternIs("after shape of another", m, 6, 5, 0, "1");
                patternIs("after shape of another", m, 6, 5, 2, "1");
            }
        }
        shapeAgainLosesLetters();
        shapeRefusals();
    }

    private static void shapeAgainLosesLetters() {
        TwoDimMatcher m = new TwoDimMatcher(5, 5);
        pattern(m, 0, "1212", "2121", "1212", "2121");
        due("shape(0, 1, 1)", m.shape(0, 1, 1), true);
        due("shape(0, 4, 4)", m.shape(0, 4, 4), true);
        patternIs("small and great again", m, 5, 5, 0, "0000", "0000", "0000", "0000");
        pattern(m, 0, "12", "21");
        due("shape(0, 2, 2)", m.shape(0, 2, 2), true);
        patternIs("the same size again", m, 5, 5, 0, "00", "00");
    }

    private static void shapeRefusals() {
        TwoDimMatcher m = new TwoDimMatcher(5, 5);
        pattern(m, 0, "12");
        pattern(m, 1, "2", "1");
        pattern(m, 2, "21", "12");
        for (int p : NOT_A_PATTERN) {
            due("shape(" + p + ", 2, 2)", m.shape(p, 2, 2), false);
        }
        int[] notASide = {LOW, -1, 0, 5, 6, HIGH};
        for (int side : notASide) {
            for (int p = 0; p < 3; p++) {
                due("shape(" + p + ", " + side + ", 1)", m.shape(p, side, 1), false);
                due("shape(" + p + ", 1, " + side + ")", m.shape(p, 1, side), false);
            }
        }
        patternIs("after refusals", m, 5, 5, 0, "12");
        patternIs("after refusals", m, 5, 5, 1, "2", "1");
        patternIs("after refusals", m, 5, 5, 2, "21", "12");
    }

    private static void paint() {
        TwoDimMatcher m = new TwoDimMatcher(4, 4);
        pattern(m, 0, "0121", "2010", "1202", "0012");
        pattern(m, 1, "012", "201");
        pattern(m, 2, "01", "20", "12");
        int[][] outside = {{3, 0}, {0, 2}, {-1, 0}, {-1, 1}, {0, -1}, {3, 2}, {LOW, 0}, {HIGH, 0}, {0, LOW}, {0, HIGH}, {0, 1 << 30}};
        for (int[] cell : outside) {
            due("paint(1, " + cell[0] + ", " + cell[1] + ", 1)", m.paint(1, cell[0], cell[1], 1), false);
        }
        due("paint(2, 2, 0, 1)", m.paint(2, 2, 0, 1), false);
        due("paint(2, 0, 3, 1)", m.paint(2, 0, 3, 1), false);
        due("paint(0, 4, 0, 2)", m.paint(0, 4, 0, 2), false);
        due("paint(0, 0, 4, 2)", m.paint(0, 0, 4, 2), false);
        for (int p : NOT_A_PATTERN) {
            due("paint(" + p + ", 0, 0, 2)", m.paint(p, 0, 0, 2), false);
        }
        for (int letter : NOT_A_LETTER) {
            due("paint(0, 1, 1, " + letter + ")", m.paint(0, 1, 1, letter), false);
        }
        textIs("painting leaves the text", m, "0000", "0000", "0000", "0000");
        patternIs("after refusals", m, 4, 4, 0, "0121", "2010", "1202", "0012");
        patternIs("after refusals", m, 4, 4, 1, "012", "201");
        patternIs("after refusals", m, 4, 4, 2, "01", "20", "12");
    }

    private static void copy() {
        String[] rows = {"01201", "12010", "20121", "01002"};
        TwoDimMatcher m = text(rows);
        m.shape(0, 3, 2);
        m.shape(1, 2, 3);
        due("copy(0, 2, 2)", m.copy(0, 2, 2), true);
        due("copy(1, 3, 1)", m.copy(1, 3, 1), true);
        due("copy(2, 4, 3)", m.copy(2, 4, 3), true);
        int[][] outside = {{3, 2}, {2, 3}, {-1, 0}, {0, -1}, {5, 0}, {0, 4}, {LOW, 0}, {HIGH, 0}, {0, LOW}, {0, HIGH},
            {HIGH - 1, 0}, {0, HIGH - 1}};
        for (int[] place : outside) {
            due("copy(0, " + place[0] + ", " + place[1] + ")", m.copy(0, place[0], place[1]), false);
        }
        due("copy(1, 4, 0)", m.copy(1, 4, 0), false);
        due("copy(1, 0, 2)", m.copy(1, 0, 2), false);
        due("copy(2, 5, 3)", m.copy(2, 5, 3), false);
        due("copy(2, 4, 4)", m.copy(2, 4, 4), false);
        for (int p : NOT_A_PATTERN) {
            due("copy(" + p + ", 0, 0)", m.copy(p, 0, 0), false);
        }
        textIs("copying leaves the text", m, rows);
        due("write(4, 3, 0)", m.write(4, 3, 0), true);
        patternIs("after copying", m, 5, 4, 0, "121", "002");
        patternIs("after copying", m, 5, 4, 1, "10", "21", "02");
        patternIs("after copying", m, 5, 4, 2, "2");
        copyKeepsToItsPattern();
    }

    private static void copyKeepsToItsPattern() {
        TwoDimMatcher m = new TwoDimMatcher(12, 12);
        pattern(m, 0, "1212", "2121", "1212", "2121");
        m.stamp(0, 8, 8);
        m.stamp(0, 0, 0);
        for (int p = 0; p < 3; p++) {
            m.shape(p, 4, 4);
        }
        due("copy(2, 8, 8) from the last corner", m.copy(2, 8, 8), true);
        due("copy(0, 0, 0) from text with more around it", m.copy(0, 0, 0), true);
        due("copy(1, 4, 4)", m.copy(1, 4, 4), true);
        due("copy(0, 8, 8) from the last corner", m.copy(0, 8, 8), true);
        patternIs("after the others", m, 12, 12, 1, "0000", "0000", "0000", "0000");
        patternIs("after the others", m, 12, 12, 2, "1212", "2121", "1212", "2121");
        patternIs("after the others", m, 12, 12, 0, "1212", "2121", "1212", "2121");
    }

    private static void stamp() {
        TwoDimMatcher m = text("22222", "22222", "22222", "22222");
        pattern(m, 0, "012", "101");
        pattern(m, 1, "0", "1");
        due("stamp(0, 0, 0)", m.stamp(0, 0, 0), true);
        textIs("stamped at the top left", m, "01222", "10122", "22222", "22222");
        due("occurs(0, 0, 0)", m.occurs(0, 0, 0), true);
        due("stamp(0, 2, 2)", m.stamp(0, 2, 2), true);
        due("stamp(1, 4, 0)", m.stamp(1, 4, 0), true);
        due("stamp(2, 0, 3)", m.stamp(2, 0, 3), true);
        String[] rows = {"01220", "10121", "22012", "12101"};
        textIs("stamped thrice more", m, rows);
        int[][] outside = {{3, 0}, {0, 3}, {-1, 0}, {0, -1}, {5, 0}, {0, 4}, {LOW, 0}, {HIGH, 0}, {0, LOW}, {0, HIGH},
            {HIGH - 1, 0}, {0, HIGH - 1}};
        for (int[] place : outside) {
            due("stamp(0, " + place[0] + ", " + place[1] + ")", m.stamp(0, place[0], place[1]), false);
        }
        for (int p : NOT_A_PATTERN) {
            due("stamp(" + p + ", 1, 1)", m.stamp(p, 1, 1), false);
        }
        textIs("after refusals", m, rows);
        patternIs("stamping leaves the pattern", m, 5, 4, 0, "012", "101");
        patternIs("stamping leaves the pattern", m, 5, 4, 1, "0", "1");
    }

    private static void letter() {
        TwoDimMatcher m = text("01201", "12010", "20121", "01002");
        textIs("written", m, "01201", "12010", "20121", "01002");
        int[][] outside = {{-1, 0}, {0, -1}, {-1, 1}, {5, 0}, {5, 3}, {0, 4}, {4, 4}, {16, 0}, {-16, 1}, {LOW, 0}, {HIGH, 0},
            {0, LOW}, {0, HIGH}, {0, 1 << 28}, {LOW, LOW}, {HIGH, HIGH}};
        for (int[] place : outside) {
            due("letter(" + place[0] + ", " + place[1] + ")", m.letter(place[0], place[1]), TwoDimMatcher.BAD);
        }
    }

    private static void occurrences() {
        TwoDimMatcher m = text("01010", "10101", "01010", "22222");
        pattern(m, 0, "01", "10");
        pattern(m, 1, "2222");
        pattern(m, 2, "0", "0");
        due("occurrences(0)", m.occurrences(0), 4);
        due("occurrences(1)", m.occurrences(1), 2);
        due("occurrences(2)", m.occurrences(2), 0);
        for (int p : NOT_A_PATTERN) {
            due("occurrences(" + p + ")", m.occurrences(p), TwoDimMatcher.BAD);
        }
        m.write(2, 2, 1);
        due("occurrences(0) after a write", m.occurrences(0), 3);
        m.paint(2, 0, 0, 1);
        m.paint(2, 0, 1, 1);
        due("occurrences(2) after paints", m.occurrences(2), 1);
        TwoDimMatcher great = new TwoDimMatcher(12, 12);
        great.paint(0, 0, 0, 0);
        due("occurrences(0) at every place", great.occurrences(0), 144);
        great.shape(1, 4, 4);
        due("occurrences(1) of the greatest pattern", great.occurrences(1), 81);
    }

    private static void occurs() {
        TwoDimMatcher m = text("01010", "10101", "01010", "22222");
        pattern(m, 0, "01", "10");
        for (int y = -2; y < 6; y++) {
            for (int x = -2; x < 7; x++) {
                boolean want = x >= 0 && x < 4 && y >= 0 && y < 2 && (x + y) % 2 == 0;
                due("occurs(0, " + x + ", " + y + ")", m.occurs(0, x, y), want);
            }
        }
        m.shape(1, 1, 1);
        due("occurs(1, 4, 0)", m.occurs(1, 4, 0), true);
        int[][] outside = {{5, 0}, {-1, 0}, {0, 4}, {0, -1}, {16, 0}, {-16, 1}, {LOW, 0}, {HIGH, 0}, {0, LOW}, {0, HIGH},
            {0, 1 << 28}, {HIGH, HIGH}, {LOW, LOW}};
        for (int[] place : outside) {
            due("occurs(1, " + place[0] + ", " + place[1] + ")", m.occurs(1, place[0], place[1]), false);
        }
        for (int p : NOT_A_PATTERN) {
            due("occurs(" + p + ", 0, 0)", m.occurs(p, 0, 0), false);
        }
        doesNotWrapAroundAnEdge();
    }

    private static void doesNotWrapAroundAnEdge() {
        TwoDimMatcher m = new TwoDimMatcher(4, 4);
        m.shape(0, 2, 1);
        due("occurs(0, 3, 0), over the right edge,", m.occurs(0, 3, 0), false);
        due("occurs(0, 2, 3)", m.occurs(0, 2, 3), true);
        m.shape(0, 1, 2);
        due("occurs(0, 0, 3), over the lower edge,", m.occurs(0, 0, 3), false);
        due("occurs(0, 3, 2)", m.occurs(0, 3, 2), true);
    }

    private static void next() {
        TwoDimMatcher m = text("0001", "0000", "1000", "0011");
        int[] numbers = {3, 32, 50, 51};
        int at = 0;
        for (int from = 0; from <= 51; from++) {
            due("next(0, " + from + ")", m.next(0, from), numbers[at]);
            if (from == numbers[at]) {
                at++;
            }
        }
        int[] after = {52, 64, 191, 192, HIGH};
        for (int from : after) {
            due("next(0, " + from + ")", m.next(0, from), TwoDimMatcher.NONE);
        }
        int[] before = {LOW, LOW + 1, -17, -2, -1};
        for (int from : before) {
            due("next(0, " + from + ")", m.next(0, from), 3);
        }
        pattern(m, 1, "11");
        due("next(1, 0)", m.next(1, 0), 50);
        due("next(1, 51)", m.next(1, 51), TwoDimMatcher.NONE);
        pattern(m, 2, "2");
        due("next(2, MIN)", m.next(2, LOW), TwoDimMatcher.NONE);
        for (int p : NOT_A_PATTERN) {
            due("next(" + p + ", 0)", m.next(p, 0), TwoDimMatcher.BAD);
            due("next(" + p + ", MAX)", m.next(p, HIGH), TwoDimMatcher.BAD);
        }
        TwoDimMatcher great = new TwoDimMatcher(12, 12);
        great.write(11, 11, 1);
        due("next of the last place", great.next(0, 187), 187);
        due("next after the last place", great.next(0, 188), TwoDimMatcher.NONE);
        m.write(0, 0, 1);
        due("next(0, 0) at the first place", m.next(0, 0), 0);
        TwoDimMatcher tall = new TwoDimMatcher(4, 9);
        tall.write(3, 8, 1);
        due("next at the end of a tall text", tall.next(0, 0), 16 * 8 + 3);
        TwoDimMatcher wide = new TwoDimMatcher(9, 4);
        wide.write(8, 3, 1);
        due("next at the end of a wide text", wide.next(0, 0), 16 * 3 + 8);
    }

    private static void covered() {
        TwoDimMatcher m = new TwoDimMatcher(6, 5);
        due("covered by none", m.covered(), 0);
        m.write(5, 4, 1);
        due("covered by three patterns at one place", m.covered(), 1);
        pattern(m, 0, "22", "22");
        pattern(m, 1, "22", "22");
        pattern(m, 2, "22", "22");
        due("covered when no pattern occurs", m.covered(), 0);
        m.stamp(0, 0, 0);
        due("covered by equal patterns", m.covered(), 4);
        m.stamp(0, 1, 1);
        due("covered by overlapping occurrences", m.covered(), 7);
        pattern(m, 1, "1");
        due("covered by two patterns", m.covered(), 8);
        pattern(m, 2, "0", "1");
        due("covered by three patterns", m.covered(), 9);
        m.shape(0, 1, 1);
        due("covered after a shape: all but the seven places with 2", m.covered(), 30 - 7);
        TwoDimMatcher great = new TwoDimMatcher(12, 12);
        great.shape(2, 4, 4);
        due("covered wholly", great.covered(), 144);
        great.write(3, 3, 1);
        great.write(8, 3, 1);
        great.write(3, 8, 1);
        great.write(8, 8, 1);
        great.shape(0, 4, 4);
        great.shape(1, 4, 4);
        due("covered in the middle and in parts", great.covered(), 16 + 4 * 16);
        coveredByLongPatterns();
    }

    private static void coveredByLongPatterns() {
        TwoDimMatcher tall = new TwoDimMatcher(4, 9);
        pattern(tall, 0, "1", "2", "1", "2");
        tall.stamp(0, 3, 5);
        pattern(tall, 1, "22");
        pattern(tall, 2, "22");
        due("covered by a high pattern in a tall text", tall.covered(), 4);
        TwoDimMatcher wide = new TwoDimMatcher(9, 4);
        pattern(wide, 0, "1212");
        wide.stamp(0, 5, 3);
        pattern(wide, 1, "2", "2");
        pattern(wide, 2, "2", "2");
        due("covered by a broad pattern in a wide text", wide.covered(), 4);
    }

    private static void overlaps() {
        TwoDimMatcher m = new TwoDimMatcher(6, 5);
        due("overlaps of none", m.overlaps(0), 0);
        m.shape(0, 1, 1);
        due("overlaps of single places", m.overlaps(0), 0);
        m.shape(0, 2, 1);
        due("overlaps of two columns", m.overlaps(0), 5 * 4);
        m.shape(0, 1, 2);
        due("overlaps of two rows", m.overlaps(0), 6 * 3);
        m.shape(0, 4, 1);
        due("overlaps of four columns", m.overlaps(0), 5 * 3);
        m.shape(0, 1, 4);
        due("overlaps of four rows", m.overlaps(0), 6 * 1);
        m.shape(0, 2, 2);
        due("overlaps of a square", m.overlaps(0), 4 * 4 + 5 * 3 + 2 * (4 * 3));
        due("overlaps of another pattern", m.overlaps(1), 0);
        for (int p : NOT_A_PATTERN) {
            due("overlaps(" + p + ")", m.overlaps(p), TwoDimMatcher.BAD);
        }
        TwoDimMatcher rising = text("0011", "0111", "1110", "1100");
        pattern(rising, 2, "01", "11");
        due("overlaps on a rising diagonal", rising.overlaps(2), 1);
        TwoDimMatcher apart = new TwoDimMatcher(8, 4);
        pattern(apart, 0, "11", "11");
        apart.stamp(0, 0, 0);
        apart.stamp(0, 2, 2);
        apart.stamp(0, 5, 0);
        due("overlaps of occurrences that only touch", apart.overlaps(0), 0);
        TwoDimMatcher tall = new TwoDimMatcher(4, 9);
        pattern(tall, 0, "1", "1");
        tall.stamp(0, 3, 6);
        tall.stamp(0, 3, 7);
        due("overlaps at the end of a tall text", tall.overlaps(0), 1);
        TwoDimMatcher great = new TwoDimMatcher(12, 12);
        great.shape(1, 4, 4);
        // Of 9 columns, 51 ordered couples are at most 3 apart, and so of 9 rows; 81 couples are a place with itself.
        due("overlaps of the greatest pattern", great.overlaps(1), (51 * 51 - 81) / 2);
    }

    /** A call of every kind is refused, and then all that can be seen is as before. */
    private static void order() {
        TwoDimMatcher m = text("0120", "1201", "2012", "0120");
        pattern(m, 0, "01", "12");
        pattern(m, 1, "20");
        pattern(m, 2, "1", "2");
        int[] before = {m.occurrences(0), m.occurrences(1), m.occurrences(2), m.covered(), m.overlaps(0), m.overlaps(1), m.overlaps(2)};
        due("write refused for x and the letter", m.write(4, 0, 3), false);
        due("shape refused for rows alone", m.shape(0, 3, 5), false);
        due("shape refused for columns alone", m.shape(0, 5, 3), false);
        due("paint refused for i alone", m.paint(1, 0, 1, 1), false);
        due("copy refused for its last column", m.copy(0, 3, 0), false);
        due("copy refused for its last row", m.copy(2, 0, 3), false);
        due("stamp refused for its last column", m.stamp(0, 3, 0), false);
        due("stamp refused for its last row", m.stamp(0, 0, 3), false);
        due("letter refused", m.letter(4, 4), TwoDimMatcher.BAD);
        due("occurrences refused", m.occurrences(3), TwoDimMatcher.BAD);
        due("occurs refused", m.occurs(3, 0, 0), false);
        due("next refused", m.next(3, 0), TwoDimMatcher.BAD);
        due("next without a place", m.next(0, 64), TwoDimMatcher.NONE);
        due("overlaps refused", m.overlaps(-1), TwoDimMatcher.BAD);
        int[] after = {m.occurrences(0), m.occurrences(1), m.occurrences(2), m.covered(), m.overlaps(0), m.overlaps(1), m.overlaps(2)};
        for (int k = 0; k < before.length; k++) {
            due("count " + k + " after refusals", after[k], before[k]);
        }
        textIs("after refusals", m, "0120", "1201", "2012", "0120");
        patternIs("after refusals", m, 4, 4, 0, "01", "12");
        patternIs("after refusals", m, 4, 4, 1, "20");
        patternIs("after refusals", m, 4, 4, 2, "1", "2");
        due("BAD", TwoDimMatcher.BAD, -1);
        due("NONE", TwoDimMatcher.NONE, -2);
    }

    private static void test(int number) {
        promise = number;
        switch (number) {
            case 1 -> newObject();
            case 2 -> write();
            case 3 -> shape();
            case 4 -> paint();
            case 5 -> copy();
            case 6 -> stamp();
            case 7 -> letter();
            case 8 -> occurrences();
            case 9 -> occurs();
            case 10 -> next();
            case 11 -> covered();
            case 12 -> overlaps();
            default -> order();
        }
    }

    public static void main(String[] args) {
        for (int number = 1; number <= 13; number++) {
            test(number);
        }
        System.out.println(wrong == 0 ? "all answers are as due" : wrong + " answers are not as due");
        if (wrong != 0) {
            System.exit(1);
        }
    }
}
