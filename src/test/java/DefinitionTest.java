import java.math.BigInteger;
import java.util.Random;

/**
 * Spaces, white and lines held against the words of the document, with nothing but the program's own answers at
 * hand: no equations are solved here. Of one and two letters all weights are tried, of three all choices of pairs
 * that have a weight; with the argument "all" all 5 to the 9th weights of three letters (under a minute).
 */
public final class DefinitionTest {
    private static final int LEFT = 0, RIGHT = 1;
    /** A prime: dependence of columns of 0 and 1 of this kind is the same by it as in fractions. */
    private static final long PRIME = 1000003;

    private final int n;
    private final EvenWhite x;
    private final String scene;
    private final int depth;
    private final int wanted;
    private final int[][] weights;
    /** In the order of the document; what is above, by what is below for all of them. */
    private final long[] spaces;
    private final boolean[] open;
    private final long[] whole;
    private long below = 1;

    private DefinitionTest(int letters, int[] weightsInOrder, int seed) {
        n = letters;
        Random lots = new Random(seed);
        x = new EvenWhite();
        x.letters(n);
        depth = 1 + lots.nextInt(60);
        x.bound(0, depth);
        wanted = lots.nextInt(501);
        x.bound(1, wanted);
        x.drift(1 + lots.nextInt(999999));
        weights = new int[n][n];
        StringBuilder text = new StringBuilder("seed " + seed + ", weights");
        for (int k = 0; k < n * n; k++) {
            x.weight(k / n, k % n, weightsInOrder[k]);
            weights[k / n][k % n] = weightsInOrder[k];
            text.append(' ').append(weightsInOrder[k]);
        }
        scene = text.append(": ").toString();
        spaces = new long[2 * n];
        open = new boolean[2 * n];
        whole = new long[2 * n];
        readSpaces();
    }

    private void due(String what, long got, long want) {
        Due.due(scene + what, got, want);
    }

    private void holds(String what, boolean so) {
        due(what, so ? 1 : 0, 1);
    }

    private static long commonDivisor(long a, long b) {
        return BigInteger.valueOf(a).gcd(BigInteger.valueOf(b)).longValueExact();
    }

    private int sideOf(int space) {
        return space < n ? RIGHT : LEFT;
    }

    private void readSpaces() {
        for (int k = 0; k < 2 * n; k++) {
            long its = x.space(k % n, sideOf(k), 1);
            holds("below 1 at least, space " + k, its >= 1);
            below = below / commonDivisor(below, its) * its;
        }
        for (int k = 0; k < 2 * n; k++) {
            long above = x.space(k % n, sideOf(k), 0);
            long its = x.space(k % n, sideOf(k), 1);
            due("lowest terms, space " + k, commonDivisor(above, its), 1);
            spaces[k] = Math.multiplyExact(above, below / its);
            open[k] = x.space(k % n, sideOf(k), 2) == 1;
            whole[k] = x.space(k % n, sideOf(k), 3);
        }
    }

    /** By what is below. */
    private long whiteOf(int one, int behind) {
        return x.pair(one, behind, 1) * below + 8 * (spaces[one] + spaces[n + behind]);
    }

    private void checkBare(int one, int behind) {
        long bare = 0;
        for (int height = 0; height < 8; height++) {
            bare += Math.min(depth, x.back(one, RIGHT, height) + x.back(behind, LEFT, height));
        }
        due("bare of " + one + behind, x.pair(one, behind, 1), bare);
    }

    private void fraction(String what, long above, long its, long wantAbove) {
        due(what + " in lowest terms", commonDivisor(above, its), 1);
        holds(what + " below 1 at least", its >= 1);
        holds(what, BigInteger.valueOf(above).multiply(BigInteger.valueOf(below))
            .equals(BigInteger.valueOf(wantAbove).multiply(BigInteger.valueOf(its))));
    }

    private void check() {
        long[][] over = new long[n][n];
        for (int one = 0; one < n; one++) {
            for (int behind = 0; behind < n; behind++) {
                checkBare(one, behind);
                long white = whiteOf(one, behind);
                over[one][behind] = white - wanted * below;
                fraction("white", x.pair(one, behind, 2), x.pair(one, behind, 3), white);
                fraction("left over", x.pair(one, behind, 4), x.pair(one, behind, 5), over[one][behind]);
                due("white by whole spaces", x.white(one, behind),
                    x.pair(one, behind, 1) + 8 * (whole[one] + whole[n + behind]));
            }
        }
        checkLeast(over);
        checkSquaresAndWorst(over);
        checkOpen();
        checkWhole();
    }

    /**
     * By a move of one space by t the sum becomes more by 16 t times (weight times what is left over, of its
     * pairs, together) and something that is never below 0. So it is least just if that is 0 for each space: a
     * sum like this has no valley but one.
     */
    private void checkLeast(long[][] over) {
        for (int letter = 0; letter < n; letter++) {
            long right = 0;
            long left = 0;
            for (int other = 0; other < n; other++) {
                right += weights[letter][other] * over[letter][other];
                left += weights[other][letter] * over[other][letter];
            }
            due("a move of the space right of " + letter, right, 0);
            due("a move of the space left of " + letter, left, 0);
        }
    }

    private void checkSquaresAndWorst(long[][] over) {
        BigInteger sum = BigInteger.ZERO;
        long worst = EvenWhite.NONE;
        long farthest = -1;
        int weighted = 0;
        for (int one = 0; one < n; one++) {
            for (int behind = 0; behind < n; behind++) {
                BigInteger far = BigInteger.valueOf(over[one][behind]);
                sum = sum.add(far.multiply(far).multiply(BigInteger.valueOf(weights[one][behind])));
                if (weights[one][behind] > 0) {
                    weighted++;
                    if (Math.abs(over[one][behind]) > farthest) {
                        farthest = Math.abs(over[one][behind]);
                        worst = 10 * one + behind;
                    }
                }
            }
        }
        due("pairs with a weight", x.told(3), weighted);
        due("worst", x.told(4), worst);
        due("squares in lowest terms", commonDivisor(x.told(5), x.told(6)), 1);
        BigInteger square = BigInteger.valueOf(below).pow(2);
        holds("squares", BigInteger.valueOf(x.told(5)).multiply(square).equals(sum.multiply(BigInteger.valueOf(x.told(6)))));
    }

    /**
     * With it as any number the sum stays as little just if those ahead of it that are not open can undo its move
     * in the white of each pair that has a weight: if its column depends on theirs.
     */
    private void checkOpen() {
        long[][] independent = new long[2 * n][];
        int many = 0;
        for (int k = 0; k < 2 * n; k++) {
            long[] column = columnOf(k);
            for (int i = 0; i < many; i++) {
                clear(column, independent[i]);
            }
            boolean depends = first(column) < 0;
            due("open, space " + k, open[k] ? 1 : 0, depends ? 1 : 0);
            if (depends) {
                due("an open one is 0, space " + k, spaces[k], 0);
            } else {
                independent[many] = column;
                many++;
            }
        }
        due("open spaces", x.told(7), 2 * n - many);
    }

    private long[] columnOf(int space) {
        long[] column = new long[n * n];
        for (int other = 0; other < n; other++) {
            int one = space < n ? space : other;
            int behind = space < n ? other : space - n;
            column[one * n + behind] = weights[one][behind] > 0 ? 1 : 0;
        }
        return column;
    }

    private static int first(long[] column) {
        for (int i = 0; i < column.length; i++) {
            if (column[i] != 0) {
                return i;
            }
        }
        return -1;
    }

    private static void clear(long[] column, long[] by) {
        int at = first(by);
        long factor = column[at];
        for (int i = 0; i < column.length; i++) {
            column[i] = Math.floorMod(column[i] * by[at] - factor * by[i], PRIME);
        }
    }

    private void checkWhole() {
        long sum = 0;
        long wholeSum = 0;
        for (int k = 0; k < 2 * n; k++) {
            sum += spaces[k];
            wholeSum += whole[k];
            long more = whole[k] * below - spaces[k];
            holds("whole, no more than one off, space " + k, more > -below && more < below);
        }
        long twice = 2 * (wholeSum * below - sum);
        holds("whole, the number next to the sum, of two the greater", twice > -below && twice <= below);
        for (int k = 0; k < 2 * n; k++) {
            for (int other = 0; other < 2 * n; other++) {
                if (raised(k) && !raised(other)) {
                    holds("whole, " + k + " ahead of " + other, restOf(k) > restOf(other)
                        || restOf(k) == restOf(other) && k < other);
                }
            }
        }
    }

    private boolean raised(int k) {
        return whole[k] * below > spaces[k];
    }

    private long restOf(int k) {
        return Math.floorMod(spaces[k], below);
    }

    private void checkLine(int seed) {
        Random lots = new Random(seed);
        int many = lots.nextInt(17);
        int[] line = new int[many];
        StringBuilder text = new StringBuilder();
        long wide = 0;
        int thin = EvenWhite.NONE;
        for (int i = 0; i < many; i++) {
            line[i] = lots.nextInt(n);
            due("set", x.set(line[i]), i + 1);
            wide += x.letter(line[i], 0) * below;
            if (i > 0) {
                long white = whiteOf(line[i - 1], line[i]);
                wide += spaces[line[i - 1]] + spaces[n + line[i]];
                text.append(white > wanted * below ? '+' : white < wanted * below ? '-' : '=');
                thin = i == 1 || white < whiteOf(line[thin], line[thin + 1]) ? i - 1 : thin;
            }
            text.append((char) (97 + line[i]));
        }
        fraction("wide", x.told(9), x.told(10), wide);
        due("thin", x.told(11), thin);
        String written = text.append(':').append(x.told(9)).append('/').append(x.told(10)).toString();
        due("signs", x.told(12), written.length());
        for (int i = 0; i < written.length(); i++) {
            due("sign " + i + " of " + written, x.sign(i), written.charAt(i));
        }
    }

    private static int[] inBase(int number, int base, int figures) {
        int[] row = new int[figures];
        for (int k = 0; k < figures; k++) {
            row[k] = number % base;
            number /= base;
        }
        return row;
    }

    /** An object is good for 512 calls: one for its spaces, one for a line. */
    private static void look(int letters, int[] weights, int seed) {
        new DefinitionTest(letters, weights, seed).check();
        DefinitionTest second = new DefinitionTest(letters, weights, seed);
        second.x.body(0, 1 + seed % 50);
        second.checkLine(seed);
    }

    private static void all(int letters) {
        int figures = letters * letters;
        int many = (int) Math.pow(5, figures);
        for (int k = 0; k < many && Due.wrong() == 0; k++) {
            look(letters, inBase(k, 5, figures), k);
        }
    }

    /** Each choice of pairs that have a weight, twice: by weights that are alike, and by lots. */
    private static void choicesOfThree() {
        for (int k = 0; k < 512; k++) {
            int[] alike = inBase(k, 2, 9);
            look(3, alike, k);
            Random lots = new Random(k);
            for (int i = 0; i < 9; i++) {
                alike[i] *= 1 + lots.nextInt(4);
            }
            look(3, alike, 1000 + k);
        }
    }

    public static void main(String[] args) {
        all(1);
        all(2);
        if (args.length > 0 && args[0].equals("all")) {
            all(3);
        } else {
            choicesOfThree();
        }
        Due.end();
    }
}
