import java.util.ArrayList;
import java.util.HashSet;
import java.util.List;
import java.util.Set;
import java.util.TreeSet;

/**
 * Long runs of mixed calls, compared with a second program that follows the words of the document over sets of places.
 * The runs are the same each time: their numbers come from a fixed sequence.
 */
public final class ModelTest {
    private static final int RUNS = 2000;
    private static final int CALLS = 512;

    /** The document's terms, with the text as rows and an occurrence as the set of its places. */
    private static final class Model {
        final int[][] text;
        final int[][][] patterns = {{{1}}, {{1}}, {{1}}};

        Model(int columns, int rows) {
            text = new int[Math.min(12, Math.max(4, rows))][Math.min(12, Math.max(4, columns))];
        }

        boolean inText(long x, long y) {
            return y >= 0 && y < text.length && x >= 0 && x < text[0].length;
        }

        boolean isPattern(int p) {
            return p >= 0 && p <= 2;
        }

        boolean isLetter(int letter) {
            return letter == 0 || letter == 1 || letter == 2;
        }

        boolean isWhollyIn(int p, long x, long y) {
            int[][] pattern = patterns[p];
            return inText(x, y) && inText(x + pattern[0].length - 1, y + pattern.length - 1);
        }

        boolean write(int x, int y, int letter) {
            if (!inText(x, y) || !isLetter(letter)) {
                return false;
            }
            text[y][x] = letter;
            return true;
        }

        boolean shape(int p, int columns, int rows) {
            if (!isPattern(p) || columns < 1 || columns > 4 || rows < 1 || rows > 4) {
                return false;
            }
            patterns[p] = new int[rows][columns];
            return true;
        }

        boolean paint(int p, int j, int i, int letter) {
            if (!isPattern(p) || i < 0 || i >= patterns[p].length || j < 0 || j >= patterns[p][0].length || !isLetter(letter)) {
                return false;
            }
            patterns[p][i][j] = letter;
            return true;
        }

        boolean copy(int p, int x, int y) {
            if (!isPattern(p) || !isWhollyIn(p, x, y)) {
                return false;
            }
            for (int i = 0; i < patterns[p].length; i++) {
                System.arraycopy(text[y + i], x, patterns[p][i], 0, patterns[p][i].length);
            }
            return true;
        }

        boolean stamp(int p, int x, int y) {
            if (!isPattern(p) || !isWhollyIn(p, x, y)) {
                return false;
            }
            for (int i = 0; i < patterns[p].length; i++) {
                System.arraycopy(patterns[p][i], 0, text[y + i], x, patterns[p][i].length);
            }
            return true;
        }

        int letter(int x, int y) {
            return inText(x, y) ? text[y][x] : -1;
        }

        boolean occurs(int p, int x, int y) {
            return isPattern(p) && inText(x, y) && places(p).contains(16 * y + x);
        }

        TreeSet<Integer> places(int p) {
            TreeSet<Integer> found = new TreeSet<>();
            for (int y = 0; y < text.length; y++) {
                for (int x = 0; x < text[0].length; x++) {
                    if (isAt(p, x, y)) {
                        found.add(16 * y + x);
                    }
                }
            }
            return found;
        }

        boolean isAt(int p, int x, int y) {
            for (int i = 0; i < patterns[p].length; i++) {
                for (int j = 0; j < patterns[p][i].length; j++) {
                    if (!inText(x + j, y + i) || text[y + i][x + j] != patterns[p][i][j]) {
                        return false;
                    }
                }
            }
            return true;
        }

        Set<Integer> placesOfOccurrence(int p, int number) {
            Set<Integer> all = new HashSet<>();
            for (int i = 0; i < patterns[p].length; i++) {
                for (int j = 0; j < patterns[p][i].length; j++) {
                    all.add(number + 16 * i + j);
                }
            }
            return all;
        }

        int occurrences(int p) {
            return isPattern(p) ? places(p).size() : -1;
        }

        int next(int p, int from) {
            if (!isPattern(p)) {
                return -1;
            }
            Integer found = places(p).ceiling(from);
            return found == null ? -2 : found;
        }

        int covered() {
            Set<Integer> all = new HashSet<>();
            for (int p = 0; p <= 2; p++) {
                for (int number : places(p)) {
                    all.addAll(placesOfOccurrence(p, number));
                }
            }
            return all.size();
        }

        int overlaps(int p) {
            if (!isPattern(p)) {
                return -1;
            }
            List<Set<Integer>> all = new ArrayList<>();
            for (int number : places(p)) {
                all.add(placesOfOccurrence(p, number));
            }
            int couples = 0;
            for (int a = 0; a < all.size(); a++) {
                for (int b = a + 1; b < all.size(); b++) {
                    if (!java.util.Collections.disjoint(all.get(a), all.get(b))) {
                        couples++;
                    }
                }
            }
            return couples;
        }
    }

    private static long sequence = 20261115L;
    private static int wrong = 0;

    private static int below(int bound) {
        sequence = sequence * 6364136223846793005L + 1442695040888963407L;
        return (int) ((sequence >>> 33) % bound);
    }

    /** Mostly from low to high, now and then just outside or far outside. */
    private static int about(int low, int high) {
        int[] strange = {low - 1, high + 1, low - 2, high + 2, Integer.MIN_VALUE, Integer.MAX_VALUE, 1 << 28, -16, 16, 17};
        return below(24) == 0 ? strange[below(strange.length)] : low + below(high - low + 1);
    }

    private static void due(String call, long got, long want) {
        if (got != want) {
            wrong++;
            if (wrong <= 20) {
                System.out.println(call + " answered " + got + ", due is " + want);
            }
        }
    }

    private static long number(boolean answer) {
        return answer ? 1 : 0;
    }

    private static void call(String run, TwoDimMatcher m, Model model, int letters) {
        int right = model.text[0].length - 1;
        int bottom = model.text.length - 1;
        int p = about(0, 2);
        int x = about(0, right);
        int y = about(0, bottom);
        int j = about(0, 2);
        int i = about(0, 2);
        int letter = about(0, letters - 1);
        int columns = about(1, 4);
        int rows = about(1, 4);
        int from = about(0, 16 * bottom + right);
        String at = run + "(" + p + ", " + x + ", " + y + ")";
        switch (below(16)) {
            case 0, 1, 2 -> due(run + "write(" + x + ", " + y + ", " + letter + ")", number(m.write(x, y, letter)), number(model.write(x, y, letter)));
            case 3 -> due(run + "shape(" + p + ", " + columns + ", " + rows + ")", number(m.shape(p, columns, rows)), number(model.shape(p, columns, rows)));
            case 4, 5 -> due(run + "paint(" + p + ", " + j + ", " + i + ", " + letter + ")", number(m.paint(p, j, i, letter)), number(model.paint(p, j, i, letter)));
            case 6 -> due(at + " copy", number(m.copy(p, x, y)), number(model.copy(p, x, y)));
            case 7, 8 -> due(at + " stamp", number(m.stamp(p, x, y)), number(model.stamp(p, x, y)));
            case 9 -> due(run + "letter(" + x + ", " + y + ")", m.letter(x, y), model.letter(x, y));
            case 10 -> due(run + "occurrences(" + p + ")", m.occurrences(p), model.occurrences(p));
            case 11 -> due(at + " occurs", number(m.occurs(p, x, y)), number(model.occurs(p, x, y)));
            case 12, 13 -> due(run + "next(" + p + ", " + from + ")", m.next(p, from), model.next(p, from));
            case 14 -> due(run + "covered()", m.covered(), model.covered());
            default -> due(run + "overlaps(" + p + ")", m.overlaps(p), model.overlaps(p));
        }
    }

    public static void main(String[] args) {
        for (int run = 0; run < RUNS; run++) {
            int columns = about(4, 12);
            int rows = about(4, 12);
            int letters = 1 + below(3);
            TwoDimMatcher m = new TwoDimMatcher(columns, rows);
            Model model = new Model(columns, rows);
            for (int k = 0; k < CALLS; k++) {
                call("run " + run + ", call " + k + ": ", m, model, letters);
            }
        }
        System.out.println(wrong == 0 ? "all answers are as due" : wrong + " answers are not as due");
        if (wrong != 0) {
            System.exit(1);
        }
    }
}
