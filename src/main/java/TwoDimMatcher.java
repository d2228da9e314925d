public final class TwoDimMatcher {
    public static final int BAD = -1;
    public static final int NONE = -2;

    private static final int LEAST_SIDE = 4;
    private static final int GREATEST_SIDE = 12;
    private static final int ROW_STEP = 16;
    private static final int TEXT_CELLS = 192;

    private static final int PATTERNS = 3;
    private static final int GREATEST_PATTERN_SIDE = 4;
    private static final int CELLS_PER_PATTERN = 16;
    private static final int PATTERN_CELLS = 48;

    private static final int LETTERS = 3;
    private static final int FIRST_PATTERN_LETTER = 1;

    private final int width;
    private final int height;

    // Indexed by the number of a place, so that the order of the indices is the order that next follows.
    private final int[] text = new int[TEXT_CELLS];

    private final int[] patternWidth = new int[PATTERNS];
    private final int[] patternHeight = new int[PATTERNS];
    private final int[] patternLetters = new int[PATTERN_CELLS];

    public TwoDimMatcher(int columns, int rows) {
        width = clampSide(columns);
        height = clampSide(rows);
        for (int p = 0; p < PATTERNS; p++) {
            patternWidth[p] = 1;
            patternHeight[p] = 1;
            patternLetters[p * CELLS_PER_PATTERN] = FIRST_PATTERN_LETTER;
        }
    }

    public boolean write(int x, int y, int letter) {
        if (!isInText(x, y) || !isLetter(letter)) {
            return false;
        }
        text[placeNumber(x, y)] = letter;
        return true;
    }

    public boolean shape(int p, int columns, int rows) {
        if (!isPattern(p) || !isPatternSide(columns) || !isPatternSide(rows)) {
            return false;
        }
        patternWidth[p] = columns;
        patternHeight[p] = rows;
        for (int cell = 0; cell < CELLS_PER_PATTERN; cell++) {
            patternLetters[p * CELLS_PER_PATTERN + cell] = 0;
        }
        return true;
    }

    public boolean paint(int p, int j, int i, int letter) {
        if (!isPattern(p) || !isInPattern(p, j, i) || !isLetter(letter)) {
            return false;
        }
        patternLetters[patternCell(p, j, i)] = letter;
        return true;
    }

    public boolean copy(int p, int x, int y) {
        if (!isPattern(p) || !fits(p, x, y)) {
            return false;
        }
        for (int i = 0; i < patternHeight[p]; i++) {
            for (int j = 0; j < patternWidth[p]; j++) {
                patternLetters[patternCell(p, j, i)] = text[placeNumber(x + j, y + i)];
            }
        }
        return true;
    }

    public boolean stamp(int p, int x, int y) {
        if (!isPattern(p) || !fits(p, x, y)) {
            return false;
        }
        for (int i = 0; i < patternHeight[p]; i++) {
            for (int j = 0; j < patternWidth[p]; j++) {
                text[placeNumber(x + j, y + i)] = patternLetters[patternCell(p, j, i)];
            }
        }
        return true;
    }

    public int letter(int x, int y) {
        if (!isInText(x, y)) {
            return BAD;
        }
        return text[placeNumber(x, y)];
    }

    public int occurrences(int p) {
        if (!isPattern(p)) {
            return BAD;
        }
        int count = 0;
        for (int y = 0; y < height; y++) {
            for (int x = 0; x < width; x++) {
                if (matchesAt(p, x, y)) {
                    count++;
                }
            }
        }
        return count;
    }

    public boolean occurs(int p, int x, int y) {
        return isPattern(p) && matchesAt(p, x, y);
    }

    public int next(int p, int from) {
        if (!isPattern(p)) {
            return BAD;
        }
        for (int y = 0; y < height; y++) {
            for (int x = 0; x < width; x++) {
                int number = placeNumber(x, y);
                if (number >= from && matchesAt(p, x, y)) {
                    return number;
                }
            }
        }
        return NONE;
    }

    public int covered() {
        int count = 0;
        for (int y = 0; y < height; y++) {
            for (int x = 0; x < width; x++) {
                if (isCovered(x, y)) {
                    count++;
                }
            }
        }
        return count;
    }

    public int overlaps(int p) {
        if (!isPattern(p)) {
            return BAD;
        }
        int couples = 0;
        for (int y = 0; y < height; y++) {
            for (int x = 0; x < width; x++) {
                if (matchesAt(p, x, y)) {
                    couples += laterOverlapsWith(p, x, y);
                }
            }
        }
        return couples;
    }

    private static int clampSide(int side) {
        if (side < LEAST_SIDE) {
            return LEAST_SIDE;
        }
        return side > GREATEST_SIDE ? GREATEST_SIDE : side;
    }

    private static boolean isLetter(int value) {
        return value >= 0 && value < LETTERS;
    }

    private static boolean isPattern(int p) {
        return p >= 0 && p < PATTERNS;
    }

    private static boolean isPatternSide(int side) {
        return side >= 1 && side <= GREATEST_PATTERN_SIDE;
    }

    private static int placeNumber(int x, int y) {
        return ROW_STEP * y + x;
    }

    private static int patternCell(int p, int j, int i) {
        return p * CELLS_PER_PATTERN + i * GREATEST_PATTERN_SIDE + j;
    }

    private boolean isInText(int x, int y) {
        return x >= 0 && x < width && y >= 0 && y < height;
    }

    private boolean isInPattern(int p, int j, int i) {
        return j >= 0 && j < patternWidth[p] && i >= 0 && i < patternHeight[p];
    }

    // The sizes are subtracted, not added to x and y, because a sum with a great x or y would wrap around.
    private boolean fits(int p, int x, int y) {
        return x >= 0 && x <= width - patternWidth[p] && y >= 0 && y <= height - patternHeight[p];
    }

    private boolean matchesAt(int p, int x, int y) {
        if (!fits(p, x, y)) {
            return false;
        }
        for (int i = 0; i < patternHeight[p]; i++) {
            for (int j = 0; j < patternWidth[p]; j++) {
                if (text[placeNumber(x + j, y + i)] != patternLetters[patternCell(p, j, i)]) {
                    return false;
                }
            }
        }
        return true;
    }

    private boolean isCovered(int x, int y) {
        for (int p = 0; p < PATTERNS; p++) {
            if (isCoveredBy(p, x, y)) {
                return true;
            }
        }
        return false;
    }

    private boolean isCoveredBy(int p, int x, int y) {
        for (int i = 0; i < patternHeight[p]; i++) {
            for (int j = 0; j < patternWidth[p]; j++) {
                if (matchesAt(p, x - j, y - i)) {
                    return true;
                }
            }
        }
        return false;
    }

    // Only places with a greater number are looked at, so that a couple counts once.
    private int laterOverlapsWith(int p, int x, int y) {
        int count = 0;
        for (int down = 0; down < patternHeight[p]; down++) {
            int leftmost = down == 0 ? 1 : 1 - patternWidth[p];
            for (int right = leftmost; right < patternWidth[p]; right++) {
                if (matchesAt(p, x + right, y + down)) {
                    count++;
                }
            }
        }
        return count;
    }
}
